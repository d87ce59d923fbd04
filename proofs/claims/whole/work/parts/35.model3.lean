-- PlaceNetsModel.layFlows.(I)V, from 84
set_option maxRecDepth 20000 in
theorem bk201_84 {d b : Nat} {Q : Option Value → mMem → Prop} {m : mMem} {x0 : Nat} {x1 : Int32} {x2 : Int32} {x3 : Int32} {x4 : Option Value} {x5 : Option Value} (hT : mWT m) (hOx0 : m.1 x0 = some (.inr 8) ∧ x0 ≠ 0)
    (h : (((1024 ≤ x3) → (Q none m)) ∧ (¬ (1024 ≤ x3) → (((¬ (iF m x0 42) = 0) → (Q none m)) ∧ (¬ (¬ (iF m x0 42) = 0) → (mEs d 201 b g201 (101, [some (.ref x0), some (.int x1), some (.int x2), some (.int x3), some (.int 0), x5], [], m) Q)))))) :
    mEs d 201 b g201 (84, [some (.ref x0), some (.int x1), some (.int x2), some (.int x3), x4, x5], [], m) Q := by
  refine e_iload_n (pc' := 85) (dAt D201 49 rfl) rfl rfl ?_
  refine e_sipush (pc' := 88) (v := 1024) (dAt D201 50 rfl) rfl (by decide) ?_
  refine e_icmp_ge (t := 187) (pc' := 91) (dAt D201 51 rfl) ⟨by decide, by decide⟩ rfl (fun c => ?_) (fun c => ?_)
  · replace h := h.1 c
    exact e_return (dAt D201 101 rfl) rfl h
  · replace h := h.2 c
    refine e_aload_n (pc' := 92) (dAt D201 52 rfl) rfl rfl ?_
    refine e_getfield (pc' := 95) (dAt D201 53 rfl) rfl rfl hOx0 (hT.int hOx0 42 (by decide)) ?_
    refine e_if_ne (t := 187) (pc' := 98) (dAt D201 54 rfl) ⟨by decide, by decide⟩ rfl (fun c => ?_) (fun c => ?_)
    · replace h := h.1 c
      exact e_return (dAt D201 101 rfl) rfl h
    · replace h := h.2 c
      refine e_iconst (pc' := 99) (v := 0) (dAt D201 55 rfl) rfl (by decide) ?_
      refine e_istore (pc' := 101) (dAt D201 56 rfl) rfl (Nat.le_of_ble_eq_true rfl) rfl ?_
      exact h
-- PlaceNetsModel.layFlows.(I)V, from 101
set_option maxRecDepth 20000 in
theorem bk201_101 {d b : Nat} {Q : Option Value → mMem → Prop} {m : mMem} {x0 : Nat} {x1 : Int32} {x2 : Int32} {x3 : Int32} {x4 : Int32} {x5 : Option Value} (hT : mWT m) (hOx0 : m.1 x0 = some (.inr 8) ∧ x0 ≠ 0)
    (h : ((((iF m x0 39) ≤ x4) → (∀ (v_1 : Int32), v_1 = (x3 + 1) → mEs d 201 b g201 (84, [some (.ref x0), some (.int x1), some (.int x2), some (.int v_1), some (.int x4), x5], [], m) Q)) ∧ (¬ ((iF m x0 39) ≤ x4) → (mEv d 209 [.ref x0, .ref (64 * x0 + 24), .int x4] m (fun r m' => mEs d 201 b g201 (120, [some (.ref x0), some (.int x1), some (.int x2), some (.int x3), some (.int x4), x5], r.toList ++ [], m') Q))))) :
    mEs d 201 b g201 (101, [some (.ref x0), some (.int x1), some (.int x2), some (.int x3), some (.int x4), x5], [], m) Q := by
  refine e_iload (pc' := 103) (dAt D201 57 rfl) rfl rfl ?_
  refine e_aload_n (pc' := 104) (dAt D201 58 rfl) rfl rfl ?_
  refine e_getfield (pc' := 107) (dAt D201 59 rfl) rfl rfl hOx0 (hT.int hOx0 39 (by decide)) ?_
  refine e_icmp_ge (t := 181) (pc' := 110) (dAt D201 60 rfl) ⟨by decide, by decide⟩ rfl (fun c => ?_) (fun c => ?_)
  · replace h := h.1 c
    replace h := h _ rfl
    refine e_iinc (pc' := 184) (dAt D201 99 rfl) rfl rfl (Nat.le_of_ble_eq_true rfl) (congrArg (_ + ·) (show Int32.ofInt (1) = (1 : Int32) by decide)) rfl ?_
    refine e_goto (t := 84) (dAt D201 100 rfl) ⟨by decide, by decide⟩ ?_
    exact h
  · replace h := h.2 c
    refine e_aload_n (pc' := 111) (dAt D201 61 rfl) rfl rfl ?_
    refine e_aload_n (pc' := 112) (dAt D201 62 rfl) rfl rfl ?_
    refine e_getfield (pc' := 115) (dAt D201 63 rfl) rfl rfl hOx0 (hT.own hOx0 23 rfl) ?_
    refine e_iload (pc' := 117) (dAt D201 64 rfl) rfl rfl ?_
    exact e_call2 h (dAt D201 65 rfl) (hi0 rfl) rfl G209 (by decide) rfl (Nat.le_of_ble_eq_true rfl) (kV hOx0 rfl rfl) rfl rfl
-- PlaceNetsModel.layFlows.(I)V, from 120
set_option maxRecDepth 20000 in
theorem bk201_120 {d b : Nat} {Q : Option Value → mMem → Prop} {m : mMem} {x0 : Nat} {x1 : Int32} {x2 : Int32} {x3 : Int32} {x4 : Int32} {x5 : Option Value} {y0 : Int32} (hT : mWT m) (hOx0 : m.1 x0 = some (.inr 8) ∧ x0 ≠ 0)
    (h : (((¬ y0 = x3) → (∀ (v_1 : Int32), v_1 = (x4 + 1) → mEs d 201 b g201 (101, [some (.ref x0), some (.int x1), some (.int x2), some (.int x3), some (.int v_1), x5], [], m) Q)) ∧ (¬ (¬ y0 = x3) → (mEs d 201 b g201 (127, [some (.ref x0), some (.int x1), some (.int x2), some (.int x3), some (.int x4), some (.int 0)], [], m) Q)))) :
    mEs d 201 b g201 (120, [some (.ref x0), some (.int x1), some (.int x2), some (.int x3), some (.int x4), x5], [.int y0], m) Q := by
  refine e_iload_n (pc' := 121) (dAt D201 66 rfl) rfl rfl ?_
  refine e_icmp_ne (t := 175) (pc' := 124) (dAt D201 67 rfl) ⟨by decide, by decide⟩ rfl (fun c => ?_) (fun c => ?_)
  · replace h := h.1 c
    replace h := h _ rfl
    refine e_iinc (pc' := 178) (dAt D201 97 rfl) rfl rfl (Nat.le_of_ble_eq_true rfl) (congrArg (_ + ·) (show Int32.ofInt (1) = (1 : Int32) by decide)) rfl ?_
    refine e_goto (t := 101) (dAt D201 98 rfl) ⟨by decide, by decide⟩ ?_
    exact h
  · replace h := h.2 c
    refine e_iconst (pc' := 125) (v := 0) (dAt D201 68 rfl) rfl (by decide) ?_
    refine e_istore (pc' := 127) (dAt D201 69 rfl) rfl (Nat.le_of_ble_eq_true rfl) rfl ?_
    exact h
-- PlaceNetsModel.layFlows.(I)V, from 127
set_option maxRecDepth 20000 in
theorem bk201_127 {d b : Nat} {Q : Option Value → mMem → Prop} {m : mMem} {x0 : Nat} {x1 : Int32} {x2 : Int32} {x3 : Int32} {x4 : Int32} {x5 : Int32} (hT : mWT m) (hOx0 : m.1 x0 = some (.inr 8) ∧ x0 ≠ 0)
    (h : (((10 ≤ x5) → (∀ (v_1 : Int32), v_1 = (x2 + 1) → ∀ (v_2 : Int32), v_2 = (x4 + 1) → mEs d 201 b g201 (101, [some (.ref x0), some (.int x1), some (.int v_1), some (.int x3), some (.int v_2), some (.int x5)], [], m) Q)) ∧ (¬ (10 ≤ x5) → ((mIn ((20 * x4) + x5) 6020 = true) ∧ ((mIn (((3000 * x1) + (10 * x2)) + x5) 6000 = true) ∧ (∀ (m_3 : mMem), m_3 = (mSetI m (64 * x0 + 23) (upd (m.2.2.1 (64 * x0 + 23)) (((3000 * x1) + (10 * x2)) + x5).toNatClampNeg ((m.2.2.2.1 (64 * x0 + 24) ((20 * x4) + x5).toNatClampNeg).toInt32))) → ∀ (v_5 : Int32), v_5 = (x5 + 1) → mEs d 201 b g201 (127, [some (.ref x0), some (.int x1), some (.int x2), some (.int x3), some (.int x4), some (.int v_5)], [], m_3) Q)))))) :
    mEs d 201 b g201 (127, [some (.ref x0), some (.int x1), some (.int x2), some (.int x3), some (.int x4), some (.int x5)], [], m) Q := by
  refine e_iload (pc' := 129) (dAt D201 70 rfl) rfl rfl ?_
  refine e_bipush (pc' := 131) (v := 10) (dAt D201 71 rfl) rfl (by decide) ?_
  refine e_icmp_ge (t := 172) (pc' := 134) (dAt D201 72 rfl) ⟨by decide, by decide⟩ rfl (fun c => ?_) (fun c => ?_)
  · replace h := h.1 c
    replace h := h _ rfl
    refine e_iinc (pc' := 175) (dAt D201 96 rfl) rfl rfl (Nat.le_of_ble_eq_true rfl) (congrArg (_ + ·) (show Int32.ofInt (1) = (1 : Int32) by decide)) rfl ?_
    replace h := h _ rfl
    refine e_iinc (pc' := 178) (dAt D201 97 rfl) rfl rfl (Nat.le_of_ble_eq_true rfl) (congrArg (_ + ·) (show Int32.ofInt (1) = (1 : Int32) by decide)) rfl ?_
    refine e_goto (t := 101) (dAt D201 98 rfl) ⟨by decide, by decide⟩ ?_
    exact h
  · replace h := h.2 c
    refine e_aload_n (pc' := 135) (dAt D201 73 rfl) rfl rfl ?_
    refine e_getfield (pc' := 138) (dAt D201 74 rfl) rfl rfl hOx0 (hT.own hOx0 22 rfl) ?_
    refine e_sipush (pc' := 141) (v := 3000) (dAt D201 75 rfl) rfl (by decide) ?_
    refine e_iload_n (pc' := 142) (dAt D201 76 rfl) rfl rfl ?_
    refine e_imul (pc' := 143) (dAt D201 77 rfl) rfl ?_
    refine e_bipush (pc' := 145) (v := 10) (dAt D201 78 rfl) rfl (by decide) ?_
    refine e_iload_n (pc' := 146) (dAt D201 79 rfl) rfl rfl ?_
    refine e_imul (pc' := 147) (dAt D201 80 rfl) rfl ?_
    refine e_iadd (pc' := 148) (dAt D201 81 rfl) rfl ?_
    refine e_iload (pc' := 150) (dAt D201 82 rfl) rfl rfl ?_
    refine e_iadd (pc' := 151) (dAt D201 83 rfl) rfl ?_
    refine e_aload_n (pc' := 152) (dAt D201 84 rfl) rfl rfl ?_
    refine e_getfield (pc' := 155) (dAt D201 85 rfl) rfl rfl hOx0 (hT.own hOx0 23 rfl) ?_
    refine e_bipush (pc' := 157) (v := 20) (dAt D201 86 rfl) rfl (by decide) ?_
    refine e_iload (pc' := 159) (dAt D201 87 rfl) rfl rfl ?_
    refine e_imul (pc' := 160) (dAt D201 88 rfl) rfl ?_
    refine e_iload (pc' := 162) (dAt D201 89 rfl) rfl rfl ?_
    refine e_iadd (pc' := 163) (dAt D201 90 rfl) rfl ?_
    obtain ⟨f1, h⟩ := h
    refine e_laload (pc' := 164) (dAt D201 91 rfl) rfl (hT.arr hOx0 23 rfl (by decide)).1 (hT.arr hOx0 23 rfl (by decide)).2 f1 rfl ?_
    refine e_l2i (pc' := 165) (dAt D201 92 rfl) rfl ?_
    obtain ⟨f1, h⟩ := h
    replace h := h _ rfl
    refine e_iastore (pc' := 166) (dAt D201 93 rfl) rfl (hT.arr hOx0 22 rfl (by decide)).1 (hT.arr hOx0 22 rfl (by decide)).2 f1 (nar_i _) ?_
    refine wtI hT (fun hT_4 => ?_)
    replace h := h _ rfl
    refine e_iinc (pc' := 169) (dAt D201 94 rfl) rfl rfl (Nat.le_of_ble_eq_true rfl) (congrArg (_ + ·) (show Int32.ofInt (1) = (1 : Int32) by decide)) rfl ?_
    refine e_goto (t := 127) (dAt D201 95 rfl) ⟨by decide, by decide⟩ ?_
    exact h
-- PlaceNetsModel.startRows.(I)V, from 0
set_option maxRecDepth 20000 in
theorem bk202_0 {d b : Nat} {Q : Option Value → mMem → Prop} {m : mMem} {x0 : Nat} {x1 : Int32} {x2 : Option Value} {x3 : Option Value} {x4 : Option Value} {x5 : Option Value} {x6 : Option Value} (hT : mWT m) (hOx0 : m.1 x0 = some (.inr 8) ∧ x0 ≠ 0)
    (h : mEv d 200 [.ref x0, .int x1] m (fun r m' => mEs d 202 b g202 (6, [some (.ref x0), some (.int x1), x2, x3, x4, x5, x6], r.toList ++ [.ref x0], m') Q)) :
    mEs d 202 b g202 (0, [some (.ref x0), some (.int x1), x2, x3, x4, x5, x6], [], m) Q := by
  refine e_aload_n (pc' := 1) (dAt D202 0 rfl) rfl rfl ?_
  refine e_aload_n (pc' := 2) (dAt D202 1 rfl) rfl rfl ?_
  refine e_iload_n (pc' := 3) (dAt D202 2 rfl) rfl rfl ?_
  exact e_call2 h (dAt D202 3 rfl) (hi0 rfl) rfl G200 (by decide) rfl (Nat.le_of_ble_eq_true rfl) (kV hOx0 rfl rfl) rfl rfl
-- PlaceNetsModel.startRows.(I)V, from 6
set_option maxRecDepth 20000 in
theorem bk202_6 {d b : Nat} {Q : Option Value → mMem → Prop} {m : mMem} {x0 : Nat} {x1 : Int32} {x2 : Option Value} {x3 : Option Value} {x4 : Option Value} {x5 : Option Value} {x6 : Option Value} {y0 : Nat} {y1 : Int32} (hT : mWT m) (hOx0 : m.1 x0 = some (.inr 8) ∧ x0 ≠ 0) (hOy0 : m.1 y0 = some (.inr 8) ∧ y0 ≠ 0)
    (h : ∀ (m_1 : mMem), m_1 = (mSetF m y0 39 (.int y1)) → mEs d 202 b g202 (11, [some (.ref x0), some (.int x1), some (.int 0), x3, x4, x5, x6], [], m_1) Q) :
    mEs d 202 b g202 (6, [some (.ref x0), some (.int x1), x2, x3, x4, x5, x6], [.int y1, .ref y0], m) Q := by
  replace h := h _ rfl
  refine e_putfield (pc' := 9) (dAt D202 4 rfl) rfl rfl hOy0 rfl rfl (fun e => by cases e) ?_
  refine wtF hT hOy0 (by decide) (fun hT_2 => ?_)
  refine e_iconst (pc' := 10) (v := 0) (dAt D202 5 rfl) rfl (by decide) ?_
  refine e_istore_n (pc' := 11) (dAt D202 6 rfl) rfl (Nat.le_of_ble_eq_true rfl) rfl ?_
  exact h
-- PlaceNetsModel.startRows.(I)V, from 11
set_option maxRecDepth 20000 in
theorem bk202_11 {d b : Nat} {Q : Option Value → mMem → Prop} {m : mMem} {x0 : Nat} {x1 : Int32} {x2 : Int32} {x3 : Option Value} {x4 : Option Value} {x5 : Option Value} {x6 : Option Value} (hT : mWT m) (hOx0 : m.1 x0 = some (.inr 8) ∧ x0 ≠ 0)
    (h : ((((iF m x0 39) ≤ x2) → (Q none m)) ∧ (¬ ((iF m x0 39) ≤ x2) → (mEs d 202 b g202 (21, [some (.ref x0), some (.int x1), some (.int x2), some (.int 0), x4, x5, x6], [], m) Q)))) :
    mEs d 202 b g202 (11, [some (.ref x0), some (.int x1), some (.int x2), x3, x4, x5, x6], [], m) Q := by
  refine e_iload_n (pc' := 12) (dAt D202 7 rfl) rfl rfl ?_
  refine e_aload_n (pc' := 13) (dAt D202 8 rfl) rfl rfl ?_
  refine e_getfield (pc' := 16) (dAt D202 9 rfl) rfl rfl hOx0 (hT.int hOx0 39 (by decide)) ?_
  refine e_icmp_ge (t := 141) (pc' := 19) (dAt D202 10 rfl) ⟨by decide, by decide⟩ rfl (fun c => ?_) (fun c => ?_)
  · replace h := h.1 c
    exact e_return (dAt D202 81 rfl) rfl h
  · replace h := h.2 c
    refine e_iconst (pc' := 20) (v := 0) (dAt D202 11 rfl) rfl (by decide) ?_
    refine e_istore_n (pc' := 21) (dAt D202 12 rfl) rfl (Nat.le_of_ble_eq_true rfl) rfl ?_
    exact h
-- PlaceNetsModel.startRows.(I)V, from 21
set_option maxRecDepth 20000 in
theorem bk202_21 {d b : Nat} {Q : Option Value → mMem → Prop} {m : mMem} {x0 : Nat} {x1 : Int32} {x2 : Int32} {x3 : Int32} {x4 : Option Value} {x5 : Option Value} {x6 : Option Value} (hT : mWT m) (hOx0 : m.1 x0 = some (.inr 8) ∧ x0 ≠ 0)
    (h : (((10 ≤ x3) → (∀ (v_1 : Int32), v_1 = (x2 + 1) → mEs d 202 b g202 (11, [some (.ref x0), some (.int x1), some (.int v_1), some (.int x3), x4, x5, x6], [], m) Q)) ∧ (¬ (10 ≤ x3) → (((¬ x3 = x2) → ((mIn ((20 * x2) + x3) 6020 = true) ∧ (∀ (m_2 : mMem), m_2 = (mSetJ m (64 * x0 + 24) (vp_updL (m.2.2.2.1 (64 * x0 + 24)) ((20 * x2) + x3).toNatClampNeg 0)) → mEv d 200 [.ref x0, .int (1 - x1)] m_2 (fun r m' => mEs d 202 b g202 (56, [some (.ref x0), some (.int x1), some (.int x2), some (.int x3), x4, x5, x6], r.toList ++ [.int x3], m') Q)))) ∧ (¬ (¬ x3 = x2) → ((mIn ((20 * x2) + x3) 6020 = true) ∧ (∀ (m_4 : mMem), m_4 = (mSetJ m (64 * x0 + 24) (vp_updL (m.2.2.2.1 (64 * x0 + 24)) ((20 * x2) + x3).toNatClampNeg 1)) → mEv d 200 [.ref x0, .int (1 - x1)] m_4 (fun r m' => mEs d 202 b g202 (56, [some (.ref x0), some (.int x1), some (.int x2), some (.int x3), x4, x5, x6], r.toList ++ [.int x3], m') Q)))))))) :
    mEs d 202 b g202 (21, [some (.ref x0), some (.int x1), some (.int x2), some (.int x3), x4, x5, x6], [], m) Q := by
  refine e_iload_n (pc' := 22) (dAt D202 13 rfl) rfl rfl ?_
  refine e_bipush (pc' := 24) (v := 10) (dAt D202 14 rfl) rfl (by decide) ?_
  refine e_icmp_ge (t := 135) (pc' := 27) (dAt D202 15 rfl) ⟨by decide, by decide⟩ rfl (fun c => ?_) (fun c => ?_)
  · replace h := h.1 c
    replace h := h _ rfl
    refine e_iinc (pc' := 138) (dAt D202 79 rfl) rfl rfl (Nat.le_of_ble_eq_true rfl) (congrArg (_ + ·) (show Int32.ofInt (1) = (1 : Int32) by decide)) rfl ?_
    refine e_goto (t := 11) (dAt D202 80 rfl) ⟨by decide, by decide⟩ ?_
    exact h
  · replace h := h.2 c
    refine e_aload_n (pc' := 28) (dAt D202 16 rfl) rfl rfl ?_
    refine e_getfield (pc' := 31) (dAt D202 17 rfl) rfl rfl hOx0 (hT.own hOx0 23 rfl) ?_
    refine e_bipush (pc' := 33) (v := 20) (dAt D202 18 rfl) rfl (by decide) ?_
    refine e_iload_n (pc' := 34) (dAt D202 19 rfl) rfl rfl ?_
    refine e_imul (pc' := 35) (dAt D202 20 rfl) rfl ?_
    refine e_iload_n (pc' := 36) (dAt D202 21 rfl) rfl rfl ?_
    refine e_iadd (pc' := 37) (dAt D202 22 rfl) rfl ?_
    refine e_iload_n (pc' := 38) (dAt D202 23 rfl) rfl rfl ?_
    refine e_iload_n (pc' := 39) (dAt D202 24 rfl) rfl rfl ?_
    refine e_icmp_ne (t := 46) (pc' := 42) (dAt D202 25 rfl) ⟨by decide, by decide⟩ rfl (fun c => ?_) (fun c => ?_)
    · replace h := h.1 c
      refine e_lconst (pc' := 47) (v := 0) (dAt D202 28 rfl) rfl (by decide) ?_
      obtain ⟨f1, h⟩ := h
      replace h := h _ rfl
      refine e_lastore (pc' := 48) (dAt D202 29 rfl) rfl (hT.arr hOx0 23 rfl (by decide)).1 (hT.arr hOx0 23 rfl (by decide)).2 f1 ?_
      refine wtJ hT (fun hT_3 => ?_)
      refine e_iload_n (pc' := 49) (dAt D202 30 rfl) rfl rfl ?_
      refine e_aload_n (pc' := 50) (dAt D202 31 rfl) rfl rfl ?_
      refine e_iconst (pc' := 51) (v := 1) (dAt D202 32 rfl) rfl (by decide) ?_
      refine e_iload_n (pc' := 52) (dAt D202 33 rfl) rfl rfl ?_
      refine e_isub (pc' := 53) (dAt D202 34 rfl) rfl ?_
      exact e_call2 h (dAt D202 35 rfl) (hi0 rfl) rfl G200 (by decide) rfl (Nat.le_of_ble_eq_true rfl) (kV hOx0 rfl rfl) rfl rfl
    · replace h := h.2 c
      refine e_lconst (pc' := 43) (v := 1) (dAt D202 26 rfl) rfl (by decide) ?_
      refine e_goto (t := 47) (dAt D202 27 rfl) ⟨by decide, by decide⟩ ?_
      obtain ⟨f1, h⟩ := h
      replace h := h _ rfl
      refine e_lastore (pc' := 48) (dAt D202 29 rfl) rfl (hT.arr hOx0 23 rfl (by decide)).1 (hT.arr hOx0 23 rfl (by decide)).2 f1 ?_
      refine wtJ hT (fun hT_5 => ?_)
      refine e_iload_n (pc' := 49) (dAt D202 30 rfl) rfl rfl ?_
      refine e_aload_n (pc' := 50) (dAt D202 31 rfl) rfl rfl ?_
      refine e_iconst (pc' := 51) (v := 1) (dAt D202 32 rfl) rfl (by decide) ?_
      refine e_iload_n (pc' := 52) (dAt D202 33 rfl) rfl rfl ?_
      refine e_isub (pc' := 53) (dAt D202 34 rfl) rfl ?_
      exact e_call2 h (dAt D202 35 rfl) (hi0 rfl) rfl G200 (by decide) rfl (Nat.le_of_ble_eq_true rfl) (kV hOx0 rfl rfl) rfl rfl
-- PlaceNetsModel.startRows.(I)V, from 56
set_option maxRecDepth 20000 in
theorem bk202_56 {d b : Nat} {Q : Option Value → mMem → Prop} {m : mMem} {x0 : Nat} {x1 : Int32} {x2 : Int32} {x3 : Int32} {x4 : Option Value} {x5 : Option Value} {x6 : Option Value} {y0 : Int32} {y1 : Int32} (hT : mWT m) (hOx0 : m.1 x0 = some (.inr 8) ∧ x0 ≠ 0)
    (h : (((y1 ≤ y0) → (((¬ x1 = 0) → (((¬ x1 = 0) → ((mIn (((20 * x2) + 10) + x3) 6020 = true) ∧ (∀ (m_1 : mMem), m_1 = (mSetJ m (64 * x0 + 24) (vp_updL (m.2.2.2.1 (64 * x0 + 24)) (((20 * x2) + 10) + x3).toNatClampNeg 0)) → ∀ (v_3 : Int32), v_3 = (x3 + 1) → mEs d 202 b g202 (21, [some (.ref x0), some (.int x1), some (.int x2), some (.int v_3), some (.int 0), some (.int x2), some (.int x3)], [], m_1) Q))) ∧ (¬ (¬ x1 = 0) → ((mIn (((20 * x2) + 10) + x3) 6020 = true) ∧ (∀ (m_4 : mMem), m_4 = (mSetJ m (64 * x0 + 24) (vp_updL (m.2.2.2.1 (64 * x0 + 24)) (((20 * x2) + 10) + x3).toNatClampNeg 0)) → ∀ (v_6 : Int32), v_6 = (x3 + 1) → mEs d 202 b g202 (21, [some (.ref x0), some (.int x1), some (.int x2), some (.int v_6), some (.int 0), some (.int x2), some (.int x2)], [], m_4) Q))))) ∧ (¬ (¬ x1 = 0) → (((¬ x1 = 0) → ((mIn (((20 * x2) + 10) + x3) 6020 = true) ∧ (∀ (m_7 : mMem), m_7 = (mSetJ m (64 * x0 + 24) (vp_updL (m.2.2.2.1 (64 * x0 + 24)) (((20 * x2) + 10) + x3).toNatClampNeg 0)) → ∀ (v_9 : Int32), v_9 = (x3 + 1) → mEs d 202 b g202 (21, [some (.ref x0), some (.int x1), some (.int x2), some (.int v_9), some (.int 0), some (.int x3), some (.int x3)], [], m_7) Q))) ∧ (¬ (¬ x1 = 0) → ((mIn (((20 * x2) + 10) + x3) 6020 = true) ∧ (∀ (m_10 : mMem), m_10 = (mSetJ m (64 * x0 + 24) (vp_updL (m.2.2.2.1 (64 * x0 + 24)) (((20 * x2) + 10) + x3).toNatClampNeg 0)) → ∀ (v_12 : Int32), v_12 = (x3 + 1) → mEs d 202 b g202 (21, [some (.ref x0), some (.int x1), some (.int x2), some (.int v_12), some (.int 0), some (.int x3), some (.int x2)], [], m_10) Q))))))) ∧ (¬ (y1 ≤ y0) → (((¬ x1 = 0) → (((¬ x1 = 0) → (mEv d 163 [.ref x0, .int x2, .int x3] m (fun r m' => mEs d 202 b g202 (114, [some (.ref x0), some (.int x1), some (.int x2), some (.int x3), some (.int 1), some (.int x2), some (.int x3)], r.toList ++ [.int (((20 * x2) + 10) + x3), .ref (64 * x0 + 24)], m') Q))) ∧ (¬ (¬ x1 = 0) → (mEv d 163 [.ref x0, .int x2, .int x2] m (fun r m' => mEs d 202 b g202 (114, [some (.ref x0), some (.int x1), some (.int x2), some (.int x3), some (.int 1), some (.int x2), some (.int x2)], r.toList ++ [.int (((20 * x2) + 10) + x3), .ref (64 * x0 + 24)], m') Q))))) ∧ (¬ (¬ x1 = 0) → (((¬ x1 = 0) → (mEv d 163 [.ref x0, .int x3, .int x3] m (fun r m' => mEs d 202 b g202 (114, [some (.ref x0), some (.int x1), some (.int x2), some (.int x3), some (.int 1), some (.int x3), some (.int x3)], r.toList ++ [.int (((20 * x2) + 10) + x3), .ref (64 * x0 + 24)], m') Q))) ∧ (¬ (¬ x1 = 0) → (mEv d 163 [.ref x0, .int x3, .int x2] m (fun r m' => mEs d 202 b g202 (114, [some (.ref x0), some (.int x1), some (.int x2), some (.int x3), some (.int 1), some (.int x3), some (.int x2)], r.toList ++ [.int (((20 * x2) + 10) + x3), .ref (64 * x0 + 24)], m') Q))))))))) :
    mEs d 202 b g202 (56, [some (.ref x0), some (.int x1), some (.int x2), some (.int x3), x4, x5, x6], [.int y1, .int y0], m) Q := by
  refine e_icmp_ge (t := 63) (pc' := 59) (dAt D202 36 rfl) ⟨by decide, by decide⟩ rfl (fun c => ?_) (fun c => ?_)
  · replace h := h.1 c
    refine e_iconst (pc' := 64) (v := 0) (dAt D202 39 rfl) rfl (by decide) ?_
    refine e_istore (pc' := 66) (dAt D202 40 rfl) rfl (Nat.le_of_ble_eq_true rfl) rfl ?_
    refine e_iload_n (pc' := 67) (dAt D202 41 rfl) rfl rfl ?_
    refine e_if_ne (t := 74) (pc' := 70) (dAt D202 42 rfl) ⟨by decide, by decide⟩ rfl (fun c => ?_) (fun c => ?_)
    · replace h := h.1 c
      refine e_iload_n (pc' := 75) (dAt D202 45 rfl) rfl rfl ?_
      refine e_istore (pc' := 77) (dAt D202 46 rfl) rfl (Nat.le_of_ble_eq_true rfl) rfl ?_
      refine e_iload_n (pc' := 78) (dAt D202 47 rfl) rfl rfl ?_
      refine e_if_ne (t := 85) (pc' := 81) (dAt D202 48 rfl) ⟨by decide, by decide⟩ rfl (fun c => ?_) (fun c => ?_)
      · replace h := h.1 c
        refine e_iload_n (pc' := 86) (dAt D202 51 rfl) rfl rfl ?_
        refine e_istore (pc' := 88) (dAt D202 52 rfl) rfl (Nat.le_of_ble_eq_true rfl) rfl ?_
        refine e_aload_n (pc' := 89) (dAt D202 53 rfl) rfl rfl ?_
        refine e_getfield (pc' := 92) (dAt D202 54 rfl) rfl rfl hOx0 (hT.own hOx0 23 rfl) ?_
        refine e_bipush (pc' := 94) (v := 20) (dAt D202 55 rfl) rfl (by decide) ?_
        refine e_iload_n (pc' := 95) (dAt D202 56 rfl) rfl rfl ?_
        refine e_imul (pc' := 96) (dAt D202 57 rfl) rfl ?_
        refine e_bipush (pc' := 98) (v := 10) (dAt D202 58 rfl) rfl (by decide) ?_
        refine e_iadd (pc' := 99) (dAt D202 59 rfl) rfl ?_
        refine e_iload_n (pc' := 100) (dAt D202 60 rfl) rfl rfl ?_
        refine e_iadd (pc' := 101) (dAt D202 61 rfl) rfl ?_
        refine e_iload (pc' := 103) (dAt D202 62 rfl) rfl rfl ?_
        refine e_if_eq (t := 127) (pc' := 106) (dAt D202 63 rfl) ⟨by decide, by decide⟩ rfl (fun c => ?_) (fun c => absurd (by decide) c)
        refine e_lconst (pc' := 128) (v := 0) (dAt D202 75 rfl) rfl (by decide) ?_
        obtain ⟨f1, h⟩ := h
        replace h := h _ rfl
        refine e_lastore (pc' := 129) (dAt D202 76 rfl) rfl (hT.arr hOx0 23 rfl (by decide)).1 (hT.arr hOx0 23 rfl (by decide)).2 f1 ?_
        refine wtJ hT (fun hT_2 => ?_)
        replace h := h _ rfl
        refine e_iinc (pc' := 132) (dAt D202 77 rfl) rfl rfl (Nat.le_of_ble_eq_true rfl) (congrArg (_ + ·) (show Int32.ofInt (1) = (1 : Int32) by decide)) rfl ?_
        refine e_goto (t := 21) (dAt D202 78 rfl) ⟨by decide, by decide⟩ ?_
        exact h
      · replace h := h.2 c
        refine e_iload_n (pc' := 82) (dAt D202 49 rfl) rfl rfl ?_
        refine e_goto (t := 86) (dAt D202 50 rfl) ⟨by decide, by decide⟩ ?_
        refine e_istore (pc' := 88) (dAt D202 52 rfl) rfl (Nat.le_of_ble_eq_true rfl) rfl ?_
        refine e_aload_n (pc' := 89) (dAt D202 53 rfl) rfl rfl ?_
        refine e_getfield (pc' := 92) (dAt D202 54 rfl) rfl rfl hOx0 (hT.own hOx0 23 rfl) ?_
        refine e_bipush (pc' := 94) (v := 20) (dAt D202 55 rfl) rfl (by decide) ?_
        refine e_iload_n (pc' := 95) (dAt D202 56 rfl) rfl rfl ?_
        refine e_imul (pc' := 96) (dAt D202 57 rfl) rfl ?_
        refine e_bipush (pc' := 98) (v := 10) (dAt D202 58 rfl) rfl (by decide) ?_
        refine e_iadd (pc' := 99) (dAt D202 59 rfl) rfl ?_
        refine e_iload_n (pc' := 100) (dAt D202 60 rfl) rfl rfl ?_
        refine e_iadd (pc' := 101) (dAt D202 61 rfl) rfl ?_
        refine e_iload (pc' := 103) (dAt D202 62 rfl) rfl rfl ?_
        refine e_if_eq (t := 127) (pc' := 106) (dAt D202 63 rfl) ⟨by decide, by decide⟩ rfl (fun c => ?_) (fun c => absurd (by decide) c)
        refine e_lconst (pc' := 128) (v := 0) (dAt D202 75 rfl) rfl (by decide) ?_
        obtain ⟨f1, h⟩ := h
        replace h := h _ rfl
        refine e_lastore (pc' := 129) (dAt D202 76 rfl) rfl (hT.arr hOx0 23 rfl (by decide)).1 (hT.arr hOx0 23 rfl (by decide)).2 f1 ?_
        refine wtJ hT (fun hT_5 => ?_)
        replace h := h _ rfl
        refine e_iinc (pc' := 132) (dAt D202 77 rfl) rfl rfl (Nat.le_of_ble_eq_true rfl) (congrArg (_ + ·) (show Int32.ofInt (1) = (1 : Int32) by decide)) rfl ?_
        refine e_goto (t := 21) (dAt D202 78 rfl) ⟨by decide, by decide⟩ ?_
        exact h
    · replace h := h.2 c
      refine e_iload_n (pc' := 71) (dAt D202 43 rfl) rfl rfl ?_
      refine e_goto (t := 75) (dAt D202 44 rfl) ⟨by decide, by decide⟩ ?_
      refine e_istore (pc' := 77) (dAt D202 46 rfl) rfl (Nat.le_of_ble_eq_true rfl) rfl ?_
      refine e_iload_n (pc' := 78) (dAt D202 47 rfl) rfl rfl ?_
      refine e_if_ne (t := 85) (pc' := 81) (dAt D202 48 rfl) ⟨by decide, by decide⟩ rfl (fun c => ?_) (fun c => ?_)
      · replace h := h.1 c
        refine e_iload_n (pc' := 86) (dAt D202 51 rfl) rfl rfl ?_
        refine e_istore (pc' := 88) (dAt D202 52 rfl) rfl (Nat.le_of_ble_eq_true rfl) rfl ?_
        refine e_aload_n (pc' := 89) (dAt D202 53 rfl) rfl rfl ?_
        refine e_getfield (pc' := 92) (dAt D202 54 rfl) rfl rfl hOx0 (hT.own hOx0 23 rfl) ?_
        refine e_bipush (pc' := 94) (v := 20) (dAt D202 55 rfl) rfl (by decide) ?_
        refine e_iload_n (pc' := 95) (dAt D202 56 rfl) rfl rfl ?_
        refine e_imul (pc' := 96) (dAt D202 57 rfl) rfl ?_
        refine e_bipush (pc' := 98) (v := 10) (dAt D202 58 rfl) rfl (by decide) ?_
        refine e_iadd (pc' := 99) (dAt D202 59 rfl) rfl ?_
        refine e_iload_n (pc' := 100) (dAt D202 60 rfl) rfl rfl ?_
        refine e_iadd (pc' := 101) (dAt D202 61 rfl) rfl ?_
        refine e_iload (pc' := 103) (dAt D202 62 rfl) rfl rfl ?_
        refine e_if_eq (t := 127) (pc' := 106) (dAt D202 63 rfl) ⟨by decide, by decide⟩ rfl (fun c => ?_) (fun c => absurd (by decide) c)
        refine e_lconst (pc' := 128) (v := 0) (dAt D202 75 rfl) rfl (by decide) ?_
        obtain ⟨f1, h⟩ := h
        replace h := h _ rfl
        refine e_lastore (pc' := 129) (dAt D202 76 rfl) rfl (hT.arr hOx0 23 rfl (by decide)).1 (hT.arr hOx0 23 rfl (by decide)).2 f1 ?_
        refine wtJ hT (fun hT_8 => ?_)
        replace h := h _ rfl
        refine e_iinc (pc' := 132) (dAt D202 77 rfl) rfl rfl (Nat.le_of_ble_eq_true rfl) (congrArg (_ + ·) (show Int32.ofInt (1) = (1 : Int32) by decide)) rfl ?_
        refine e_goto (t := 21) (dAt D202 78 rfl) ⟨by decide, by decide⟩ ?_
        exact h
      · replace h := h.2 c
        refine e_iload_n (pc' := 82) (dAt D202 49 rfl) rfl rfl ?_
        refine e_goto (t := 86) (dAt D202 50 rfl) ⟨by decide, by decide⟩ ?_
        refine e_istore (pc' := 88) (dAt D202 52 rfl) rfl (Nat.le_of_ble_eq_true rfl) rfl ?_
        refine e_aload_n (pc' := 89) (dAt D202 53 rfl) rfl rfl ?_
        refine e_getfield (pc' := 92) (dAt D202 54 rfl) rfl rfl hOx0 (hT.own hOx0 23 rfl) ?_
        refine e_bipush (pc' := 94) (v := 20) (dAt D202 55 rfl) rfl (by decide) ?_
        refine e_iload_n (pc' := 95) (dAt D202 56 rfl) rfl rfl ?_
        refine e_imul (pc' := 96) (dAt D202 57 rfl) rfl ?_
        refine e_bipush (pc' := 98) (v := 10) (dAt D202 58 rfl) rfl (by decide) ?_
        refine e_iadd (pc' := 99) (dAt D202 59 rfl) rfl ?_
        refine e_iload_n (pc' := 100) (dAt D202 60 rfl) rfl rfl ?_
        refine e_iadd (pc' := 101) (dAt D202 61 rfl) rfl ?_
        refine e_iload (pc' := 103) (dAt D202 62 rfl) rfl rfl ?_
        refine e_if_eq (t := 127) (pc' := 106) (dAt D202 63 rfl) ⟨by decide, by decide⟩ rfl (fun c => ?_) (fun c => absurd (by decide) c)
        refine e_lconst (pc' := 128) (v := 0) (dAt D202 75 rfl) rfl (by decide) ?_
        obtain ⟨f1, h⟩ := h
        replace h := h _ rfl
        refine e_lastore (pc' := 129) (dAt D202 76 rfl) rfl (hT.arr hOx0 23 rfl (by decide)).1 (hT.arr hOx0 23 rfl (by decide)).2 f1 ?_
        refine wtJ hT (fun hT_11 => ?_)
        replace h := h _ rfl
        refine e_iinc (pc' := 132) (dAt D202 77 rfl) rfl rfl (Nat.le_of_ble_eq_true rfl) (congrArg (_ + ·) (show Int32.ofInt (1) = (1 : Int32) by decide)) rfl ?_
        refine e_goto (t := 21) (dAt D202 78 rfl) ⟨by decide, by decide⟩ ?_
        exact h
  · replace h := h.2 c
    refine e_iconst (pc' := 60) (v := 1) (dAt D202 37 rfl) rfl (by decide) ?_
    refine e_goto (t := 64) (dAt D202 38 rfl) ⟨by decide, by decide⟩ ?_
    refine e_istore (pc' := 66) (dAt D202 40 rfl) rfl (Nat.le_of_ble_eq_true rfl) rfl ?_
    refine e_iload_n (pc' := 67) (dAt D202 41 rfl) rfl rfl ?_
    refine e_if_ne (t := 74) (pc' := 70) (dAt D202 42 rfl) ⟨by decide, by decide⟩ rfl (fun c => ?_) (fun c => ?_)
    · replace h := h.1 c
      refine e_iload_n (pc' := 75) (dAt D202 45 rfl) rfl rfl ?_
      refine e_istore (pc' := 77) (dAt D202 46 rfl) rfl (Nat.le_of_ble_eq_true rfl) rfl ?_
      refine e_iload_n (pc' := 78) (dAt D202 47 rfl) rfl rfl ?_
      refine e_if_ne (t := 85) (pc' := 81) (dAt D202 48 rfl) ⟨by decide, by decide⟩ rfl (fun c => ?_) (fun c => ?_)
      · replace h := h.1 c
        refine e_iload_n (pc' := 86) (dAt D202 51 rfl) rfl rfl ?_
        refine e_istore (pc' := 88) (dAt D202 52 rfl) rfl (Nat.le_of_ble_eq_true rfl) rfl ?_
        refine e_aload_n (pc' := 89) (dAt D202 53 rfl) rfl rfl ?_
        refine e_getfield (pc' := 92) (dAt D202 54 rfl) rfl rfl hOx0 (hT.own hOx0 23 rfl) ?_
        refine e_bipush (pc' := 94) (v := 20) (dAt D202 55 rfl) rfl (by decide) ?_
        refine e_iload_n (pc' := 95) (dAt D202 56 rfl) rfl rfl ?_
        refine e_imul (pc' := 96) (dAt D202 57 rfl) rfl ?_
        refine e_bipush (pc' := 98) (v := 10) (dAt D202 58 rfl) rfl (by decide) ?_
        refine e_iadd (pc' := 99) (dAt D202 59 rfl) rfl ?_
        refine e_iload_n (pc' := 100) (dAt D202 60 rfl) rfl rfl ?_
        refine e_iadd (pc' := 101) (dAt D202 61 rfl) rfl ?_
        refine e_iload (pc' := 103) (dAt D202 62 rfl) rfl rfl ?_
        refine e_if_eq (t := 127) (pc' := 106) (dAt D202 63 rfl) ⟨by decide, by decide⟩ rfl (fun c => absurd c (by decide)) (fun c => ?_)
        refine e_aload_n (pc' := 107) (dAt D202 64 rfl) rfl rfl ?_
        refine e_iload (pc' := 109) (dAt D202 65 rfl) rfl rfl ?_
        refine e_iload (pc' := 111) (dAt D202 66 rfl) rfl rfl ?_
        exact e_call2 h (dAt D202 67 rfl) (hi0 rfl) rfl G163 (by decide) rfl (Nat.le_of_ble_eq_true rfl) (kV hOx0 rfl rfl) rfl rfl
      · replace h := h.2 c
        refine e_iload_n (pc' := 82) (dAt D202 49 rfl) rfl rfl ?_
        refine e_goto (t := 86) (dAt D202 50 rfl) ⟨by decide, by decide⟩ ?_
        refine e_istore (pc' := 88) (dAt D202 52 rfl) rfl (Nat.le_of_ble_eq_true rfl) rfl ?_
        refine e_aload_n (pc' := 89) (dAt D202 53 rfl) rfl rfl ?_
        refine e_getfield (pc' := 92) (dAt D202 54 rfl) rfl rfl hOx0 (hT.own hOx0 23 rfl) ?_
        refine e_bipush (pc' := 94) (v := 20) (dAt D202 55 rfl) rfl (by decide) ?_
        refine e_iload_n (pc' := 95) (dAt D202 56 rfl) rfl rfl ?_
        refine e_imul (pc' := 96) (dAt D202 57 rfl) rfl ?_
        refine e_bipush (pc' := 98) (v := 10) (dAt D202 58 rfl) rfl (by decide) ?_
        refine e_iadd (pc' := 99) (dAt D202 59 rfl) rfl ?_
        refine e_iload_n (pc' := 100) (dAt D202 60 rfl) rfl rfl ?_
        refine e_iadd (pc' := 101) (dAt D202 61 rfl) rfl ?_
        refine e_iload (pc' := 103) (dAt D202 62 rfl) rfl rfl ?_
        refine e_if_eq (t := 127) (pc' := 106) (dAt D202 63 rfl) ⟨by decide, by decide⟩ rfl (fun c => absurd c (by decide)) (fun c => ?_)
        refine e_aload_n (pc' := 107) (dAt D202 64 rfl) rfl rfl ?_
        refine e_iload (pc' := 109) (dAt D202 65 rfl) rfl rfl ?_
        refine e_iload (pc' := 111) (dAt D202 66 rfl) rfl rfl ?_
        exact e_call2 h (dAt D202 67 rfl) (hi0 rfl) rfl G163 (by decide) rfl (Nat.le_of_ble_eq_true rfl) (kV hOx0 rfl rfl) rfl rfl
    · replace h := h.2 c
      refine e_iload_n (pc' := 71) (dAt D202 43 rfl) rfl rfl ?_
      refine e_goto (t := 75) (dAt D202 44 rfl) ⟨by decide, by decide⟩ ?_
      refine e_istore (pc' := 77) (dAt D202 46 rfl) rfl (Nat.le_of_ble_eq_true rfl) rfl ?_
      refine e_iload_n (pc' := 78) (dAt D202 47 rfl) rfl rfl ?_
      refine e_if_ne (t := 85) (pc' := 81) (dAt D202 48 rfl) ⟨by decide, by decide⟩ rfl (fun c => ?_) (fun c => ?_)
      · replace h := h.1 c
        refine e_iload_n (pc' := 86) (dAt D202 51 rfl) rfl rfl ?_
        refine e_istore (pc' := 88) (dAt D202 52 rfl) rfl (Nat.le_of_ble_eq_true rfl) rfl ?_
        refine e_aload_n (pc' := 89) (dAt D202 53 rfl) rfl rfl ?_
        refine e_getfield (pc' := 92) (dAt D202 54 rfl) rfl rfl hOx0 (hT.own hOx0 23 rfl) ?_
        refine e_bipush (pc' := 94) (v := 20) (dAt D202 55 rfl) rfl (by decide) ?_
        refine e_iload_n (pc' := 95) (dAt D202 56 rfl) rfl rfl ?_
        refine e_imul (pc' := 96) (dAt D202 57 rfl) rfl ?_
        refine e_bipush (pc' := 98) (v := 10) (dAt D202 58 rfl) rfl (by decide) ?_
        refine e_iadd (pc' := 99) (dAt D202 59 rfl) rfl ?_
        refine e_iload_n (pc' := 100) (dAt D202 60 rfl) rfl rfl ?_
        refine e_iadd (pc' := 101) (dAt D202 61 rfl) rfl ?_
        refine e_iload (pc' := 103) (dAt D202 62 rfl) rfl rfl ?_
        refine e_if_eq (t := 127) (pc' := 106) (dAt D202 63 rfl) ⟨by decide, by decide⟩ rfl (fun c => absurd c (by decide)) (fun c => ?_)
        refine e_aload_n (pc' := 107) (dAt D202 64 rfl) rfl rfl ?_
        refine e_iload (pc' := 109) (dAt D202 65 rfl) rfl rfl ?_
        refine e_iload (pc' := 111) (dAt D202 66 rfl) rfl rfl ?_
        exact e_call2 h (dAt D202 67 rfl) (hi0 rfl) rfl G163 (by decide) rfl (Nat.le_of_ble_eq_true rfl) (kV hOx0 rfl rfl) rfl rfl
      · replace h := h.2 c
        refine e_iload_n (pc' := 82) (dAt D202 49 rfl) rfl rfl ?_
        refine e_goto (t := 86) (dAt D202 50 rfl) ⟨by decide, by decide⟩ ?_
        refine e_istore (pc' := 88) (dAt D202 52 rfl) rfl (Nat.le_of_ble_eq_true rfl) rfl ?_
        refine e_aload_n (pc' := 89) (dAt D202 53 rfl) rfl rfl ?_
        refine e_getfield (pc' := 92) (dAt D202 54 rfl) rfl rfl hOx0 (hT.own hOx0 23 rfl) ?_
        refine e_bipush (pc' := 94) (v := 20) (dAt D202 55 rfl) rfl (by decide) ?_
        refine e_iload_n (pc' := 95) (dAt D202 56 rfl) rfl rfl ?_
        refine e_imul (pc' := 96) (dAt D202 57 rfl) rfl ?_
        refine e_bipush (pc' := 98) (v := 10) (dAt D202 58 rfl) rfl (by decide) ?_
        refine e_iadd (pc' := 99) (dAt D202 59 rfl) rfl ?_
        refine e_iload_n (pc' := 100) (dAt D202 60 rfl) rfl rfl ?_
        refine e_iadd (pc' := 101) (dAt D202 61 rfl) rfl ?_
        refine e_iload (pc' := 103) (dAt D202 62 rfl) rfl rfl ?_
        refine e_if_eq (t := 127) (pc' := 106) (dAt D202 63 rfl) ⟨by decide, by decide⟩ rfl (fun c => absurd c (by decide)) (fun c => ?_)
        refine e_aload_n (pc' := 107) (dAt D202 64 rfl) rfl rfl ?_
        refine e_iload (pc' := 109) (dAt D202 65 rfl) rfl rfl ?_
        refine e_iload (pc' := 111) (dAt D202 66 rfl) rfl rfl ?_
        exact e_call2 h (dAt D202 67 rfl) (hi0 rfl) rfl G163 (by decide) rfl (Nat.le_of_ble_eq_true rfl) (kV hOx0 rfl rfl) rfl rfl
-- PlaceNetsModel.startRows.(I)V, from 114
set_option maxRecDepth 20000 in
theorem bk202_114 {d b : Nat} {Q : Option Value → mMem → Prop} {m : mMem} {x0 : Nat} {x1 : Int32} {x2 : Int32} {x3 : Int32} {x4 : Int32} {x5 : Int32} {x6 : Int32} {y0 : Nat} {ly0 : Nat} {y1 : Int32} {y2 : Int32} (hT : mWT m) (hOx0 : m.1 x0 = some (.inr 8) ∧ x0 ≠ 0) (hAy0 : m.1 y0 = some (.inl (.long, ly0)) ∧ y0 ≠ 0)
    (h : mEv d 162 [.ref x0, .int x5, .int x6] m (fun r m' => mEs d 202 b g202 (122, [some (.ref x0), some (.int x1), some (.int x2), some (.int x3), some (.int x4), some (.int x5), some (.int x6)], r.toList ++ [.int y2, .int y1, .ref y0], m') Q)) :
    mEs d 202 b g202 (114, [some (.ref x0), some (.int x1), some (.int x2), some (.int x3), some (.int x4), some (.int x5), some (.int x6)], [.int y2, .int y1, .ref y0], m) Q := by
  refine e_aload_n (pc' := 115) (dAt D202 68 rfl) rfl rfl ?_
  refine e_iload (pc' := 117) (dAt D202 69 rfl) rfl rfl ?_
  refine e_iload (pc' := 119) (dAt D202 70 rfl) rfl rfl ?_
  exact e_call2 h (dAt D202 71 rfl) (hi0 rfl) rfl G162 (by decide) rfl (Nat.le_of_ble_eq_true rfl) (kV hOx0 rfl rfl) rfl rfl
-- PlaceNetsModel.startRows.(I)V, from 122
set_option maxRecDepth 20000 in
theorem bk202_122 {d b : Nat} {Q : Option Value → mMem → Prop} {m : mMem} {x0 : Nat} {x1 : Int32} {x2 : Int32} {x3 : Int32} {x4 : Int32} {x5 : Int32} {x6 : Int32} {y0 : Nat} {ly0 : Nat} {y1 : Int32} {y2 : Int32} {y3 : Int32} (hT : mWT m) (hOx0 : m.1 x0 = some (.inr 8) ∧ x0 ≠ 0) (hAy0 : m.1 y0 = some (.inl (.long, ly0)) ∧ y0 ≠ 0)
    (h : (mIn y1 ly0 = true) ∧ (∀ (m_1 : mMem), m_1 = (mSetJ m y0 (vp_updL (m.2.2.2.1 y0) y1.toNatClampNeg ((y2 - y3).toInt64))) → ∀ (v_3 : Int32), v_3 = (x3 + 1) → mEs d 202 b g202 (21, [some (.ref x0), some (.int x1), some (.int x2), some (.int v_3), some (.int x4), some (.int x5), some (.int x6)], [], m_1) Q)) :
    mEs d 202 b g202 (122, [some (.ref x0), some (.int x1), some (.int x2), some (.int x3), some (.int x4), some (.int x5), some (.int x6)], [.int y3, .int y2, .int y1, .ref y0], m) Q := by
  refine e_isub (pc' := 123) (dAt D202 72 rfl) rfl ?_
  refine e_i2l (pc' := 124) (dAt D202 73 rfl) rfl ?_
  refine e_goto (t := 128) (dAt D202 74 rfl) ⟨by decide, by decide⟩ ?_
  obtain ⟨f1, h⟩ := h
  replace h := h _ rfl
  refine e_lastore (pc' := 129) (dAt D202 76 rfl) rfl hAy0.1 hAy0.2 f1 ?_
  refine wtJ hT (fun hT_2 => ?_)
  replace h := h _ rfl
  refine e_iinc (pc' := 132) (dAt D202 77 rfl) rfl rfl (Nat.le_of_ble_eq_true rfl) (congrArg (_ + ·) (show Int32.ofInt (1) = (1 : Int32) by decide)) rfl ?_
  refine e_goto (t := 21) (dAt D202 78 rfl) ⟨by decide, by decide⟩ ?_
  exact h
-- PlaceNetsModel.oneStep.(I)V, from 0
set_option maxRecDepth 20000 in
theorem bk203_0 {d b : Nat} {Q : Option Value → mMem → Prop} {m : mMem} {x0 : Nat} {x1 : Int32} {x2 : Option Value} {x3 : Option Value} (hT : mWT m) (hOx0 : m.1 x0 = some (.inr 8) ∧ x0 ≠ 0)
    (h : ∀ (m_1 : mMem), m_1 = (mSetF m x0 41 (.int 0)) → mEs d 203 b g203 (7, [some (.ref x0), some (.int x1), some (.int 0), x3], [], m_1) Q) :
    mEs d 203 b g203 (0, [some (.ref x0), some (.int x1), x2, x3], [], m) Q := by
  refine e_aload_n (pc' := 1) (dAt D203 0 rfl) rfl rfl ?_
  refine e_iconst (pc' := 2) (v := 0) (dAt D203 1 rfl) rfl (by decide) ?_
  replace h := h _ rfl
  refine e_putfield (pc' := 5) (dAt D203 2 rfl) rfl rfl hOx0 rfl rfl (fun e => by cases e) ?_
  refine wtF hT hOx0 (by decide) (fun hT_2 => ?_)
  refine e_iconst (pc' := 6) (v := 0) (dAt D203 3 rfl) rfl (by decide) ?_
  refine e_istore_n (pc' := 7) (dAt D203 4 rfl) rfl (Nat.le_of_ble_eq_true rfl) rfl ?_
  exact h
-- PlaceNetsModel.oneStep.(I)V, from 7
set_option maxRecDepth 20000 in
theorem bk203_7 {d b : Nat} {Q : Option Value → mMem → Prop} {m : mMem} {x0 : Nat} {x1 : Int32} {x2 : Int32} {x3 : Option Value} (hT : mWT m) (hOx0 : m.1 x0 = some (.inr 8) ∧ x0 ≠ 0)
    (h : ((((iF m x0 39) ≤ x2) → (mEs d 203 b g203 (58, [some (.ref x0), some (.int x1), some (.int 0), x3], [], m) Q)) ∧ (¬ ((iF m x0 39) ≤ x2) → (((¬ (iF m x0 42) = 0) → (mEs d 203 b g203 (58, [some (.ref x0), some (.int x1), some (.int 0), x3], [], m) Q)) ∧ (¬ (¬ (iF m x0 42) = 0) → ((mIn (((20 * x2) + 10) + x1) 6020 = true) ∧ (((¬ (lg_cmp (m.2.2.2.1 (64 * x0 + 24) (((20 * x2) + 10) + x1).toNatClampNeg) 0) = 0) → (mEs d 203 b g203 (50, [some (.ref x0), some (.int x1), some (.int x2), x3], [], m) Q)) ∧ (¬ (¬ (lg_cmp (m.2.2.2.1 (64 * x0 + 24) (((20 * x2) + 10) + x1).toNatClampNeg) 0) = 0) → (mEv d 204 [.ref x0, .ref (64 * x0 + 24), .int x2] m (fun r m' => mEs d 203 b g203 (50, [some (.ref x0), some (.int x1), some (.int x2), x3], r.toList ++ [], m') Q)))))))))) :
    mEs d 203 b g203 (7, [some (.ref x0), some (.int x1), some (.int x2), x3], [], m) Q := by
  refine e_iload_n (pc' := 8) (dAt D203 5 rfl) rfl rfl ?_
  refine e_aload_n (pc' := 9) (dAt D203 6 rfl) rfl rfl ?_
  refine e_getfield (pc' := 12) (dAt D203 7 rfl) rfl rfl hOx0 (hT.int hOx0 39 (by decide)) ?_
  refine e_icmp_ge (t := 56) (pc' := 15) (dAt D203 8 rfl) ⟨by decide, by decide⟩ rfl (fun c => ?_) (fun c => ?_)
  · replace h := h.1 c
    refine e_iconst (pc' := 57) (v := 0) (dAt D203 32 rfl) rfl (by decide) ?_
    refine e_istore_n (pc' := 58) (dAt D203 33 rfl) rfl (Nat.le_of_ble_eq_true rfl) rfl ?_
    exact h
  · replace h := h.2 c
    refine e_aload_n (pc' := 16) (dAt D203 9 rfl) rfl rfl ?_
    refine e_getfield (pc' := 19) (dAt D203 10 rfl) rfl rfl hOx0 (hT.int hOx0 42 (by decide)) ?_
    refine e_if_ne (t := 56) (pc' := 22) (dAt D203 11 rfl) ⟨by decide, by decide⟩ rfl (fun c => ?_) (fun c => ?_)
    · replace h := h.1 c
      refine e_iconst (pc' := 57) (v := 0) (dAt D203 32 rfl) rfl (by decide) ?_
      refine e_istore_n (pc' := 58) (dAt D203 33 rfl) rfl (Nat.le_of_ble_eq_true rfl) rfl ?_
      exact h
    · replace h := h.2 c
      refine e_aload_n (pc' := 23) (dAt D203 12 rfl) rfl rfl ?_
      refine e_getfield (pc' := 26) (dAt D203 13 rfl) rfl rfl hOx0 (hT.own hOx0 23 rfl) ?_
      refine e_bipush (pc' := 28) (v := 20) (dAt D203 14 rfl) rfl (by decide) ?_
      refine e_iload_n (pc' := 29) (dAt D203 15 rfl) rfl rfl ?_
      refine e_imul (pc' := 30) (dAt D203 16 rfl) rfl ?_
      refine e_bipush (pc' := 32) (v := 10) (dAt D203 17 rfl) rfl (by decide) ?_
      refine e_iadd (pc' := 33) (dAt D203 18 rfl) rfl ?_
      refine e_iload_n (pc' := 34) (dAt D203 19 rfl) rfl rfl ?_
      refine e_iadd (pc' := 35) (dAt D203 20 rfl) rfl ?_
      obtain ⟨f1, h⟩ := h
      refine e_laload (pc' := 36) (dAt D203 21 rfl) rfl (hT.arr hOx0 23 rfl (by decide)).1 (hT.arr hOx0 23 rfl (by decide)).2 f1 rfl ?_
      refine e_lconst (pc' := 37) (v := 0) (dAt D203 22 rfl) rfl (by decide) ?_
      refine e_lcmp (pc' := 38) (dAt D203 23 rfl) rfl ?_
      refine e_if_ne (t := 50) (pc' := 41) (dAt D203 24 rfl) ⟨by decide, by decide⟩ rfl (fun c => ?_) (fun c => ?_)
      · replace h := h.1 c
        exact h
      · replace h := h.2 c
        refine e_aload_n (pc' := 42) (dAt D203 25 rfl) rfl rfl ?_
        refine e_aload_n (pc' := 43) (dAt D203 26 rfl) rfl rfl ?_
        refine e_getfield (pc' := 46) (dAt D203 27 rfl) rfl rfl hOx0 (hT.own hOx0 23 rfl) ?_
        refine e_iload_n (pc' := 47) (dAt D203 28 rfl) rfl rfl ?_
        exact e_call2 h (dAt D203 29 rfl) (hi0 rfl) rfl G204 (by decide) rfl (Nat.le_of_ble_eq_true rfl) (kV hOx0 rfl rfl) rfl rfl
-- PlaceNetsModel.oneStep.(I)V, from 50
set_option maxRecDepth 20000 in
theorem bk203_50 {d b : Nat} {Q : Option Value → mMem → Prop} {m : mMem} {x0 : Nat} {x1 : Int32} {x2 : Int32} {x3 : Option Value} (hT : mWT m) (hOx0 : m.1 x0 = some (.inr 8) ∧ x0 ≠ 0)
    (h : ∀ (v_1 : Int32), v_1 = (x2 + 1) → mEs d 203 b g203 (7, [some (.ref x0), some (.int x1), some (.int v_1), x3], [], m) Q) :
    mEs d 203 b g203 (50, [some (.ref x0), some (.int x1), some (.int x2), x3], [], m) Q := by
  replace h := h _ rfl
  refine e_iinc (pc' := 53) (dAt D203 30 rfl) rfl rfl (Nat.le_of_ble_eq_true rfl) (congrArg (_ + ·) (show Int32.ofInt (1) = (1 : Int32) by decide)) rfl ?_
  refine e_goto (t := 7) (dAt D203 31 rfl) ⟨by decide, by decide⟩ ?_
  exact h
-- PlaceNetsModel.oneStep.(I)V, from 58
set_option maxRecDepth 20000 in
theorem bk203_58 {d b : Nat} {Q : Option Value → mMem → Prop} {m : mMem} {x0 : Nat} {x1 : Int32} {x2 : Int32} {x3 : Option Value} (hT : mWT m) (hOx0 : m.1 x0 = some (.inr 8) ∧ x0 ≠ 0)
    (h : ((((iF m x0 39) ≤ x2) → (∀ (m_1 : mMem), m_1 = (mSetF m x0 39 (.int 0)) → mEs d 203 b g203 (147, [some (.ref x0), some (.int x1), some (.int 0), x3], [], m_1) Q)) ∧ (¬ ((iF m x0 39) ≤ x2) → (mEs d 203 b g203 (68, [some (.ref x0), some (.int x1), some (.int x2), some (.int 0)], [], m) Q)))) :
    mEs d 203 b g203 (58, [some (.ref x0), some (.int x1), some (.int x2), x3], [], m) Q := by
  refine e_iload_n (pc' := 59) (dAt D203 34 rfl) rfl rfl ?_
  refine e_aload_n (pc' := 60) (dAt D203 35 rfl) rfl rfl ?_
  refine e_getfield (pc' := 63) (dAt D203 36 rfl) rfl rfl hOx0 (hT.int hOx0 39 (by decide)) ?_
  refine e_icmp_ge (t := 140) (pc' := 66) (dAt D203 37 rfl) ⟨by decide, by decide⟩ rfl (fun c => ?_) (fun c => ?_)
  · replace h := h.1 c
    refine e_aload_n (pc' := 141) (dAt D203 82 rfl) rfl rfl ?_
    refine e_iconst (pc' := 142) (v := 0) (dAt D203 83 rfl) rfl (by decide) ?_
    replace h := h _ rfl
    refine e_putfield (pc' := 145) (dAt D203 84 rfl) rfl rfl hOx0 rfl rfl (fun e => by cases e) ?_
    refine wtF hT hOx0 (by decide) (fun hT_2 => ?_)
    refine e_iconst (pc' := 146) (v := 0) (dAt D203 85 rfl) rfl (by decide) ?_
    refine e_istore_n (pc' := 147) (dAt D203 86 rfl) rfl (Nat.le_of_ble_eq_true rfl) rfl ?_
    exact h
  · replace h := h.2 c
    refine e_iconst (pc' := 67) (v := 0) (dAt D203 38 rfl) rfl (by decide) ?_
    refine e_istore_n (pc' := 68) (dAt D203 39 rfl) rfl (Nat.le_of_ble_eq_true rfl) rfl ?_
    exact h
-- PlaceNetsModel.oneStep.(I)V, from 68
set_option maxRecDepth 20000 in
theorem bk203_68 {d b : Nat} {Q : Option Value → mMem → Prop} {m : mMem} {x0 : Nat} {x1 : Int32} {x2 : Int32} {x3 : Int32} (hT : mWT m) (hOx0 : m.1 x0 = some (.inr 8) ∧ x0 ≠ 0)
    (h : ((((iF m x0 39) ≤ x3) → (∀ (v_1 : Int32), v_1 = (x2 + 1) → mEs d 203 b g203 (58, [some (.ref x0), some (.int x1), some (.int v_1), some (.int x3)], [], m) Q)) ∧ (¬ ((iF m x0 39) ≤ x3) → (((¬ (iF m x0 42) = 0) → (∀ (v_2 : Int32), v_2 = (x2 + 1) → mEs d 203 b g203 (58, [some (.ref x0), some (.int x1), some (.int v_2), some (.int x3)], [], m) Q)) ∧ (¬ (¬ (iF m x0 42) = 0) → ((mIn (((20 * x2) + 10) + x1) 6020 = true) ∧ ((((lg_cmp (m.2.2.2.1 (64 * x0 + 24) (((20 * x2) + 10) + x1).toNatClampNeg) 0) ≤ 0) → (mEs d 203 b g203 (128, [some (.ref x0), some (.int x1), some (.int x2), some (.int x3)], [], m) Q)) ∧ (¬ ((lg_cmp (m.2.2.2.1 (64 * x0 + 24) (((20 * x2) + 10) + x1).toNatClampNeg) 0) ≤ 0) → ((mIn (((20 * x3) + 10) + x1) 6020 = true) ∧ (((0 ≤ (lg_cmp (m.2.2.2.1 (64 * x0 + 24) (((20 * x3) + 10) + x1).toNatClampNeg) 0)) → (mEs d 203 b g203 (128, [some (.ref x0), some (.int x1), some (.int x2), some (.int x3)], [], m) Q)) ∧ (¬ (0 ≤ (lg_cmp (m.2.2.2.1 (64 * x0 + 24) (((20 * x3) + 10) + x1).toNatClampNeg) 0)) → (mEv d 205 [.ref x0, .int x2, .int x3, .int x1] m (fun r m' => mEs d 203 b g203 (128, [some (.ref x0), some (.int x1), some (.int x2), some (.int x3)], r.toList ++ [], m') Q))))))))))))) :
    mEs d 203 b g203 (68, [some (.ref x0), some (.int x1), some (.int x2), some (.int x3)], [], m) Q := by
  refine e_iload_n (pc' := 69) (dAt D203 40 rfl) rfl rfl ?_
  refine e_aload_n (pc' := 70) (dAt D203 41 rfl) rfl rfl ?_
  refine e_getfield (pc' := 73) (dAt D203 42 rfl) rfl rfl hOx0 (hT.int hOx0 39 (by decide)) ?_
  refine e_icmp_ge (t := 134) (pc' := 76) (dAt D203 43 rfl) ⟨by decide, by decide⟩ rfl (fun c => ?_) (fun c => ?_)
  · replace h := h.1 c
    replace h := h _ rfl
    refine e_iinc (pc' := 137) (dAt D203 80 rfl) rfl rfl (Nat.le_of_ble_eq_true rfl) (congrArg (_ + ·) (show Int32.ofInt (1) = (1 : Int32) by decide)) rfl ?_
    refine e_goto (t := 58) (dAt D203 81 rfl) ⟨by decide, by decide⟩ ?_
    exact h
  · replace h := h.2 c
    refine e_aload_n (pc' := 77) (dAt D203 44 rfl) rfl rfl ?_
    refine e_getfield (pc' := 80) (dAt D203 45 rfl) rfl rfl hOx0 (hT.int hOx0 42 (by decide)) ?_
    refine e_if_ne (t := 134) (pc' := 83) (dAt D203 46 rfl) ⟨by decide, by decide⟩ rfl (fun c => ?_) (fun c => ?_)
    · replace h := h.1 c
      replace h := h _ rfl
      refine e_iinc (pc' := 137) (dAt D203 80 rfl) rfl rfl (Nat.le_of_ble_eq_true rfl) (congrArg (_ + ·) (show Int32.ofInt (1) = (1 : Int32) by decide)) rfl ?_
      refine e_goto (t := 58) (dAt D203 81 rfl) ⟨by decide, by decide⟩ ?_
      exact h
    · replace h := h.2 c
      refine e_aload_n (pc' := 84) (dAt D203 47 rfl) rfl rfl ?_
      refine e_getfield (pc' := 87) (dAt D203 48 rfl) rfl rfl hOx0 (hT.own hOx0 23 rfl) ?_
      refine e_bipush (pc' := 89) (v := 20) (dAt D203 49 rfl) rfl (by decide) ?_
      refine e_iload_n (pc' := 90) (dAt D203 50 rfl) rfl rfl ?_
      refine e_imul (pc' := 91) (dAt D203 51 rfl) rfl ?_
      refine e_bipush (pc' := 93) (v := 10) (dAt D203 52 rfl) rfl (by decide) ?_
      refine e_iadd (pc' := 94) (dAt D203 53 rfl) rfl ?_
      refine e_iload_n (pc' := 95) (dAt D203 54 rfl) rfl rfl ?_
      refine e_iadd (pc' := 96) (dAt D203 55 rfl) rfl ?_
      obtain ⟨f1, h⟩ := h
      refine e_laload (pc' := 97) (dAt D203 56 rfl) rfl (hT.arr hOx0 23 rfl (by decide)).1 (hT.arr hOx0 23 rfl (by decide)).2 f1 rfl ?_
      refine e_lconst (pc' := 98) (v := 0) (dAt D203 57 rfl) rfl (by decide) ?_
      refine e_lcmp (pc' := 99) (dAt D203 58 rfl) rfl ?_
      refine e_if_le (t := 128) (pc' := 102) (dAt D203 59 rfl) ⟨by decide, by decide⟩ rfl (fun c => ?_) (fun c => ?_)
      · replace h := h.1 c
        exact h
      · replace h := h.2 c
        refine e_aload_n (pc' := 103) (dAt D203 60 rfl) rfl rfl ?_
        refine e_getfield (pc' := 106) (dAt D203 61 rfl) rfl rfl hOx0 (hT.own hOx0 23 rfl) ?_
        refine e_bipush (pc' := 108) (v := 20) (dAt D203 62 rfl) rfl (by decide) ?_
        refine e_iload_n (pc' := 109) (dAt D203 63 rfl) rfl rfl ?_
        refine e_imul (pc' := 110) (dAt D203 64 rfl) rfl ?_
        refine e_bipush (pc' := 112) (v := 10) (dAt D203 65 rfl) rfl (by decide) ?_
        refine e_iadd (pc' := 113) (dAt D203 66 rfl) rfl ?_
        refine e_iload_n (pc' := 114) (dAt D203 67 rfl) rfl rfl ?_
        refine e_iadd (pc' := 115) (dAt D203 68 rfl) rfl ?_
        obtain ⟨f1, h⟩ := h
        refine e_laload (pc' := 116) (dAt D203 69 rfl) rfl (hT.arr hOx0 23 rfl (by decide)).1 (hT.arr hOx0 23 rfl (by decide)).2 f1 rfl ?_
        refine e_lconst (pc' := 117) (v := 0) (dAt D203 70 rfl) rfl (by decide) ?_
        refine e_lcmp (pc' := 118) (dAt D203 71 rfl) rfl ?_
        refine e_if_ge (t := 128) (pc' := 121) (dAt D203 72 rfl) ⟨by decide, by decide⟩ rfl (fun c => ?_) (fun c => ?_)
        · replace h := h.1 c
          exact h
        · replace h := h.2 c
          refine e_aload_n (pc' := 122) (dAt D203 73 rfl) rfl rfl ?_
          refine e_iload_n (pc' := 123) (dAt D203 74 rfl) rfl rfl ?_
          refine e_iload_n (pc' := 124) (dAt D203 75 rfl) rfl rfl ?_
          refine e_iload_n (pc' := 125) (dAt D203 76 rfl) rfl rfl ?_
          exact e_call2 h (dAt D203 77 rfl) (hi0 rfl) rfl G205 (by decide) rfl (Nat.le_of_ble_eq_true rfl) (kV hOx0 rfl rfl) rfl rfl
-- PlaceNetsModel.oneStep.(I)V, from 128
set_option maxRecDepth 20000 in
theorem bk203_128 {d b : Nat} {Q : Option Value → mMem → Prop} {m : mMem} {x0 : Nat} {x1 : Int32} {x2 : Int32} {x3 : Int32} (hT : mWT m) (hOx0 : m.1 x0 = some (.inr 8) ∧ x0 ≠ 0)
    (h : ∀ (v_1 : Int32), v_1 = (x3 + 1) → mEs d 203 b g203 (68, [some (.ref x0), some (.int x1), some (.int x2), some (.int v_1)], [], m) Q) :
    mEs d 203 b g203 (128, [some (.ref x0), some (.int x1), some (.int x2), some (.int x3)], [], m) Q := by
  replace h := h _ rfl
  refine e_iinc (pc' := 131) (dAt D203 78 rfl) rfl rfl (Nat.le_of_ble_eq_true rfl) (congrArg (_ + ·) (show Int32.ofInt (1) = (1 : Int32) by decide)) rfl ?_
  refine e_goto (t := 68) (dAt D203 79 rfl) ⟨by decide, by decide⟩ ?_
  exact h
-- PlaceNetsModel.oneStep.(I)V, from 147
set_option maxRecDepth 20000 in
theorem bk203_147 {d b : Nat} {Q : Option Value → mMem → Prop} {m : mMem} {x0 : Nat} {x1 : Int32} {x2 : Int32} {x3 : Option Value} (hT : mWT m) (hOx0 : m.1 x0 = some (.inr 8) ∧ x0 ≠ 0)
    (h : ((((iF m x0 41) ≤ x2) → (Q none m)) ∧ (¬ ((iF m x0 41) ≤ x2) → (((¬ (iF m x0 42) = 0) → (Q none m)) ∧ (¬ (¬ (iF m x0 42) = 0) → (mEv d 208 [.ref x0, .int x2] m (fun r m' => mEs d 203 b g203 (167, [some (.ref x0), some (.int x1), some (.int x2), x3], r.toList ++ [], m') Q))))))) :
    mEs d 203 b g203 (147, [some (.ref x0), some (.int x1), some (.int x2), x3], [], m) Q := by
  refine e_iload_n (pc' := 148) (dAt D203 87 rfl) rfl rfl ?_
  refine e_aload_n (pc' := 149) (dAt D203 88 rfl) rfl rfl ?_
  refine e_getfield (pc' := 152) (dAt D203 89 rfl) rfl rfl hOx0 (hT.int hOx0 41 (by decide)) ?_
  refine e_icmp_ge (t := 225) (pc' := 155) (dAt D203 90 rfl) ⟨by decide, by decide⟩ rfl (fun c => ?_) (fun c => ?_)
  · replace h := h.1 c
    exact e_return (dAt D203 130 rfl) rfl h
  · replace h := h.2 c
    refine e_aload_n (pc' := 156) (dAt D203 91 rfl) rfl rfl ?_
    refine e_getfield (pc' := 159) (dAt D203 92 rfl) rfl rfl hOx0 (hT.int hOx0 42 (by decide)) ?_
    refine e_if_ne (t := 225) (pc' := 162) (dAt D203 93 rfl) ⟨by decide, by decide⟩ rfl (fun c => ?_) (fun c => ?_)
    · replace h := h.1 c
      exact e_return (dAt D203 130 rfl) rfl h
    · replace h := h.2 c
      refine e_aload_n (pc' := 163) (dAt D203 94 rfl) rfl rfl ?_
      refine e_iload_n (pc' := 164) (dAt D203 95 rfl) rfl rfl ?_
      exact e_call2 h (dAt D203 96 rfl) (hi0 rfl) rfl G208 (by decide) rfl (Nat.le_of_ble_eq_true rfl) (kV hOx0 rfl rfl) rfl rfl
-- PlaceNetsModel.oneStep.(I)V, from 167
set_option maxRecDepth 20000 in
theorem bk203_167 {d b : Nat} {Q : Option Value → mMem → Prop} {m : mMem} {x0 : Nat} {x1 : Int32} {x2 : Int32} {x3 : Option Value} {y0 : Int32} (hT : mWT m) (hOx0 : m.1 x0 = some (.inr 8) ∧ x0 ≠ 0)
    (h : (((¬ y0 = 0) → (∀ (v_1 : Int32), v_1 = (x2 + 1) → mEs d 203 b g203 (147, [some (.ref x0), some (.int x1), some (.int v_1), x3], [], m) Q)) ∧ (¬ (¬ y0 = 0) → (mEs d 203 b g203 (172, [some (.ref x0), some (.int x1), some (.int x2), some (.int 0)], [], m) Q)))) :
    mEs d 203 b g203 (167, [some (.ref x0), some (.int x1), some (.int x2), x3], [.int y0], m) Q := by
  refine e_if_ne (t := 219) (pc' := 170) (dAt D203 97 rfl) ⟨by decide, by decide⟩ rfl (fun c => ?_) (fun c => ?_)
  · replace h := h.1 c
    replace h := h _ rfl
    refine e_iinc (pc' := 222) (dAt D203 128 rfl) rfl rfl (Nat.le_of_ble_eq_true rfl) (congrArg (_ + ·) (show Int32.ofInt (1) = (1 : Int32) by decide)) rfl ?_
    refine e_goto (t := 147) (dAt D203 129 rfl) ⟨by decide, by decide⟩ ?_
    exact h
  · replace h := h.2 c
    refine e_iconst (pc' := 171) (v := 0) (dAt D203 98 rfl) rfl (by decide) ?_
    refine e_istore_n (pc' := 172) (dAt D203 99 rfl) rfl (Nat.le_of_ble_eq_true rfl) rfl ?_
    exact h
-- PlaceNetsModel.oneStep.(I)V, from 172
set_option maxRecDepth 20000 in
theorem bk203_172 {d b : Nat} {Q : Option Value → mMem → Prop} {m : mMem} {x0 : Nat} {x1 : Int32} {x2 : Int32} {x3 : Int32} (hT : mWT m) (hOx0 : m.1 x0 = some (.inr 8) ∧ x0 ≠ 0)
    (h : (((20 ≤ x3) → (∀ (m_1 : mMem), m_1 = (mSetF m x0 39 (.int ((iF m x0 39) + 1))) → ∀ (v_3 : Int32), v_3 = (x2 + 1) → mEs d 203 b g203 (147, [some (.ref x0), some (.int x1), some (.int v_3), some (.int x3)], [], m_1) Q)) ∧ (¬ (20 ≤ x3) → ((mIn ((20 * x2) + x3) 6020 = true) ∧ ((mIn ((20 * (iF m x0 39)) + x3) 6020 = true) ∧ (∀ (m_4 : mMem), m_4 = (mSetJ m (64 * x0 + 24) (vp_updL (m.2.2.2.1 (64 * x0 + 24)) ((20 * (iF m x0 39)) + x3).toNatClampNeg (m.2.2.2.1 (64 * x0 + 25) ((20 * x2) + x3).toNatClampNeg))) → ∀ (v_6 : Int32), v_6 = (x3 + 1) → mEs d 203 b g203 (172, [some (.ref x0), some (.int x1), some (.int x2), some (.int v_6)], [], m_4) Q)))))) :
    mEs d 203 b g203 (172, [some (.ref x0), some (.int x1), some (.int x2), some (.int x3)], [], m) Q := by
  refine e_iload_n (pc' := 173) (dAt D203 100 rfl) rfl rfl ?_
  refine e_bipush (pc' := 175) (v := 20) (dAt D203 101 rfl) rfl (by decide) ?_
  refine e_icmp_ge (t := 209) (pc' := 178) (dAt D203 102 rfl) ⟨by decide, by decide⟩ rfl (fun c => ?_) (fun c => ?_)
  · replace h := h.1 c
    refine e_aload_n (pc' := 210) (dAt D203 122 rfl) rfl rfl ?_
    refine e_dup (pc' := 211) (dAt D203 123 rfl) rfl rfl ?_
    refine e_getfield (pc' := 214) (dAt D203 124 rfl) rfl rfl hOx0 (hT.int hOx0 39 (by decide)) ?_
    refine e_iconst (pc' := 215) (v := 1) (dAt D203 125 rfl) rfl (by decide) ?_
    refine e_iadd (pc' := 216) (dAt D203 126 rfl) rfl ?_
    replace h := h _ rfl
    refine e_putfield (pc' := 219) (dAt D203 127 rfl) rfl rfl hOx0 rfl rfl (fun e => by cases e) ?_
    refine wtF hT hOx0 (by decide) (fun hT_2 => ?_)
    replace h := h _ rfl
    refine e_iinc (pc' := 222) (dAt D203 128 rfl) rfl rfl (Nat.le_of_ble_eq_true rfl) (congrArg (_ + ·) (show Int32.ofInt (1) = (1 : Int32) by decide)) rfl ?_
    refine e_goto (t := 147) (dAt D203 129 rfl) ⟨by decide, by decide⟩ ?_
    exact h
  · replace h := h.2 c
    refine e_aload_n (pc' := 179) (dAt D203 103 rfl) rfl rfl ?_
    refine e_getfield (pc' := 182) (dAt D203 104 rfl) rfl rfl hOx0 (hT.own hOx0 23 rfl) ?_
    refine e_bipush (pc' := 184) (v := 20) (dAt D203 105 rfl) rfl (by decide) ?_
    refine e_aload_n (pc' := 185) (dAt D203 106 rfl) rfl rfl ?_
    refine e_getfield (pc' := 188) (dAt D203 107 rfl) rfl rfl hOx0 (hT.int hOx0 39 (by decide)) ?_
    refine e_imul (pc' := 189) (dAt D203 108 rfl) rfl ?_
    refine e_iload_n (pc' := 190) (dAt D203 109 rfl) rfl rfl ?_
    refine e_iadd (pc' := 191) (dAt D203 110 rfl) rfl ?_
    refine e_aload_n (pc' := 192) (dAt D203 111 rfl) rfl rfl ?_
    refine e_getfield (pc' := 195) (dAt D203 112 rfl) rfl rfl hOx0 (hT.own hOx0 24 rfl) ?_
    refine e_bipush (pc' := 197) (v := 20) (dAt D203 113 rfl) rfl (by decide) ?_
    refine e_iload_n (pc' := 198) (dAt D203 114 rfl) rfl rfl ?_
    refine e_imul (pc' := 199) (dAt D203 115 rfl) rfl ?_
    refine e_iload_n (pc' := 200) (dAt D203 116 rfl) rfl rfl ?_
    refine e_iadd (pc' := 201) (dAt D203 117 rfl) rfl ?_
    obtain ⟨f1, h⟩ := h
    refine e_laload (pc' := 202) (dAt D203 118 rfl) rfl (hT.arr hOx0 24 rfl (by decide)).1 (hT.arr hOx0 24 rfl (by decide)).2 f1 rfl ?_
    obtain ⟨f1, h⟩ := h
    replace h := h _ rfl
    refine e_lastore (pc' := 203) (dAt D203 119 rfl) rfl (hT.arr hOx0 23 rfl (by decide)).1 (hT.arr hOx0 23 rfl (by decide)).2 f1 ?_
    refine wtJ hT (fun hT_5 => ?_)
    replace h := h _ rfl
    refine e_iinc (pc' := 206) (dAt D203 120 rfl) rfl rfl (Nat.le_of_ble_eq_true rfl) (congrArg (_ + ·) (show Int32.ofInt (1) = (1 : Int32) by decide)) rfl ?_
    refine e_goto (t := 172) (dAt D203 121 rfl) ⟨by decide, by decide⟩ ?_
    exact h
-- PlaceNetsModel.addRow.([JI)V, from 0
set_option maxRecDepth 20000 in
theorem bk204_0 {d b : Nat} {Q : Option Value → mMem → Prop} {m : mMem} {x0 : Nat} {x1 : Nat} {lx1 : Nat} {x2 : Int32} {x3 : Option Value} (hT : mWT m) (hOx0 : m.1 x0 = some (.inr 8) ∧ x0 ≠ 0) (hAx1 : m.1 x1 = some (.inl (.long, lx1)) ∧ x1 ≠ 0)
    (h : (((¬ (iF m x0 41) = 300) → (mEs d 204 b g204 (18, [some (.ref x0), some (.ref x1), some (.int x2), some (.int 0)], [], m) Q)) ∧ (¬ (¬ (iF m x0 41) = 300) → (∀ (m_1 : mMem), m_1 = (mSetF m x0 42 (.int 1)) → Q none m_1)))) :
    mEs d 204 b g204 (0, [some (.ref x0), some (.ref x1), some (.int x2), x3], [], m) Q := by
  refine e_aload_n (pc' := 1) (dAt D204 0 rfl) rfl rfl ?_
  refine e_getfield (pc' := 4) (dAt D204 1 rfl) rfl rfl hOx0 (hT.int hOx0 41 (by decide)) ?_
  refine e_sipush (pc' := 7) (v := 300) (dAt D204 2 rfl) rfl (by decide) ?_
  refine e_icmp_ne (t := 16) (pc' := 10) (dAt D204 3 rfl) ⟨by decide, by decide⟩ rfl (fun c => ?_) (fun c => ?_)
  · replace h := h.1 c
    refine e_iconst (pc' := 17) (v := 0) (dAt D204 8 rfl) rfl (by decide) ?_
    refine e_istore_n (pc' := 18) (dAt D204 9 rfl) rfl (Nat.le_of_ble_eq_true rfl) rfl ?_
    exact h
  · replace h := h.2 c
    refine e_aload_n (pc' := 11) (dAt D204 4 rfl) rfl rfl ?_
    refine e_iconst (pc' := 12) (v := 1) (dAt D204 5 rfl) rfl (by decide) ?_
    replace h := h _ rfl
    refine e_putfield (pc' := 15) (dAt D204 6 rfl) rfl rfl hOx0 rfl rfl (fun e => by cases e) ?_
    refine wtF hT hOx0 (by decide) (fun hT_2 => ?_)
    exact e_return (dAt D204 7 rfl) rfl h
-- PlaceNetsModel.addRow.([JI)V, from 18
set_option maxRecDepth 20000 in
theorem bk204_18 {d b : Nat} {Q : Option Value → mMem → Prop} {m : mMem} {x0 : Nat} {x1 : Nat} {lx1 : Nat} {x2 : Int32} {x3 : Int32} (hT : mWT m) (hOx0 : m.1 x0 = some (.inr 8) ∧ x0 ≠ 0) (hAx1 : m.1 x1 = some (.inl (.long, lx1)) ∧ x1 ≠ 0)
    (h : (((20 ≤ x3) → (∀ (m_1 : mMem), m_1 = (mSetF m x0 41 (.int ((iF m x0 41) + 1))) → Q none m_1)) ∧ (¬ (20 ≤ x3) → ((mIn ((20 * x2) + x3) lx1 = true) ∧ ((mIn ((20 * (iF m x0 41)) + x3) 6020 = true) ∧ (∀ (m_3 : mMem), m_3 = (mSetJ m (64 * x0 + 25) (vp_updL (m.2.2.2.1 (64 * x0 + 25)) ((20 * (iF m x0 41)) + x3).toNatClampNeg (m.2.2.2.1 x1 ((20 * x2) + x3).toNatClampNeg))) → ∀ (v_5 : Int32), v_5 = (x3 + 1) → mEs d 204 b g204 (18, [some (.ref x0), some (.ref x1), some (.int x2), some (.int v_5)], [], m_3) Q)))))) :
    mEs d 204 b g204 (18, [some (.ref x0), some (.ref x1), some (.int x2), some (.int x3)], [], m) Q := by
  refine e_iload_n (pc' := 19) (dAt D204 10 rfl) rfl rfl ?_
  refine e_bipush (pc' := 21) (v := 20) (dAt D204 11 rfl) rfl (by decide) ?_
  refine e_icmp_ge (t := 52) (pc' := 24) (dAt D204 12 rfl) ⟨by decide, by decide⟩ rfl (fun c => ?_) (fun c => ?_)
  · replace h := h.1 c
    refine e_aload_n (pc' := 53) (dAt D204 31 rfl) rfl rfl ?_
    refine e_dup (pc' := 54) (dAt D204 32 rfl) rfl rfl ?_
    refine e_getfield (pc' := 57) (dAt D204 33 rfl) rfl rfl hOx0 (hT.int hOx0 41 (by decide)) ?_
    refine e_iconst (pc' := 58) (v := 1) (dAt D204 34 rfl) rfl (by decide) ?_
    refine e_iadd (pc' := 59) (dAt D204 35 rfl) rfl ?_
    replace h := h _ rfl
    refine e_putfield (pc' := 62) (dAt D204 36 rfl) rfl rfl hOx0 rfl rfl (fun e => by cases e) ?_
    refine wtF hT hOx0 (by decide) (fun hT_2 => ?_)
    exact e_return (dAt D204 37 rfl) rfl h
  · replace h := h.2 c
    refine e_aload_n (pc' := 25) (dAt D204 13 rfl) rfl rfl ?_
    refine e_getfield (pc' := 28) (dAt D204 14 rfl) rfl rfl hOx0 (hT.own hOx0 24 rfl) ?_
    refine e_bipush (pc' := 30) (v := 20) (dAt D204 15 rfl) rfl (by decide) ?_
    refine e_aload_n (pc' := 31) (dAt D204 16 rfl) rfl rfl ?_
    refine e_getfield (pc' := 34) (dAt D204 17 rfl) rfl rfl hOx0 (hT.int hOx0 41 (by decide)) ?_
    refine e_imul (pc' := 35) (dAt D204 18 rfl) rfl ?_
    refine e_iload_n (pc' := 36) (dAt D204 19 rfl) rfl rfl ?_
    refine e_iadd (pc' := 37) (dAt D204 20 rfl) rfl ?_
    refine e_aload_n (pc' := 38) (dAt D204 21 rfl) rfl rfl ?_
    refine e_bipush (pc' := 40) (v := 20) (dAt D204 22 rfl) rfl (by decide) ?_
    refine e_iload_n (pc' := 41) (dAt D204 23 rfl) rfl rfl ?_
    refine e_imul (pc' := 42) (dAt D204 24 rfl) rfl ?_
    refine e_iload_n (pc' := 43) (dAt D204 25 rfl) rfl rfl ?_
    refine e_iadd (pc' := 44) (dAt D204 26 rfl) rfl ?_
    obtain ⟨f1, h⟩ := h
    refine e_laload (pc' := 45) (dAt D204 27 rfl) rfl hAx1.1 hAx1.2 f1 rfl ?_
    obtain ⟨f1, h⟩ := h
    replace h := h _ rfl
    refine e_lastore (pc' := 46) (dAt D204 28 rfl) rfl (hT.arr hOx0 24 rfl (by decide)).1 (hT.arr hOx0 24 rfl (by decide)).2 f1 ?_
    refine wtJ hT (fun hT_4 => ?_)
    replace h := h _ rfl
    refine e_iinc (pc' := 49) (dAt D204 29 rfl) rfl rfl (Nat.le_of_ble_eq_true rfl) (congrArg (_ + ·) (show Int32.ofInt (1) = (1 : Int32) by decide)) rfl ?_
    refine e_goto (t := 18) (dAt D204 30 rfl) ⟨by decide, by decide⟩ ?_
    exact h
-- PlaceNetsModel.addPair.(III)V, from 0
set_option maxRecDepth 20000 in
theorem bk205_0 {d b : Nat} {Q : Option Value → mMem → Prop} {m : mMem} {x0 : Nat} {x1 : Int32} {x2 : Int32} {x3 : Int32} {x4 : Option Value} {x5 : Option Value} {x6 : Option Value} {x7 : Option Value} {x8 : Option Value} {x9 : Option Value} {x10 : Option Value} (hT : mWT m) (hOx0 : m.1 x0 = some (.inr 8) ∧ x0 ≠ 0)
    (h : (mIn (((20 * x2) + 10) + x3) 6020 = true) ∧ (mEv d 206 [.long (m.2.2.2.1 (64 * x0 + 24) (((20 * x2) + 10) + x3).toNatClampNeg)] m (fun r m' => mEs d 205 b g205 (17, [some (.ref x0), some (.int x1), some (.int x2), some (.int x3), x4, x5, x6, x7, x8, x9, x10], r.toList ++ [], m') Q))) :
    mEs d 205 b g205 (0, [some (.ref x0), some (.int x1), some (.int x2), some (.int x3), x4, x5, x6, x7, x8, x9, x10], [], m) Q := by
  refine e_aload_n (pc' := 1) (dAt D205 0 rfl) rfl rfl ?_
  refine e_getfield (pc' := 4) (dAt D205 1 rfl) rfl rfl hOx0 (hT.own hOx0 23 rfl) ?_
  refine e_bipush (pc' := 6) (v := 20) (dAt D205 2 rfl) rfl (by decide) ?_
  refine e_iload_n (pc' := 7) (dAt D205 3 rfl) rfl rfl ?_
  refine e_imul (pc' := 8) (dAt D205 4 rfl) rfl ?_
  refine e_bipush (pc' := 10) (v := 10) (dAt D205 5 rfl) rfl (by decide) ?_
  refine e_iadd (pc' := 11) (dAt D205 6 rfl) rfl ?_
  refine e_iload_n (pc' := 12) (dAt D205 7 rfl) rfl rfl ?_
  refine e_iadd (pc' := 13) (dAt D205 8 rfl) rfl ?_
  obtain ⟨f1, h⟩ := h
  refine e_laload (pc' := 14) (dAt D205 9 rfl) rfl (hT.arr hOx0 23 rfl (by decide)).1 (hT.arr hOx0 23 rfl (by decide)).2 f1 rfl ?_
  exact e_call2 h (dAt D205 10 rfl) (hi2 rfl) rfl G206 (by decide) rfl (Nat.le_of_ble_eq_true rfl) rfl rfl rfl
-- PlaceNetsModel.addPair.(III)V, from 17
set_option maxRecDepth 20000 in
theorem bk205_17 {d b : Nat} {Q : Option Value → mMem → Prop} {m : mMem} {x0 : Nat} {x1 : Int32} {x2 : Int32} {x3 : Int32} {x4 : Option Value} {x5 : Option Value} {x6 : Option Value} {x7 : Option Value} {x8 : Option Value} {x9 : Option Value} {x10 : Option Value} {y0 : Int64} (hT : mWT m) (hOx0 : m.1 x0 = some (.inr 8) ∧ x0 ≠ 0)
    (h : (mIn (((20 * x1) + 10) + x3) 6020 = true) ∧ (mEv d 206 [.long (m.2.2.2.1 (64 * x0 + 24) (((20 * x1) + 10) + x3).toNatClampNeg)] m (fun r m' => mEs d 205 b g205 (36, [some (.ref x0), some (.int x1), some (.int x2), some (.int x3), some (.long y0), none, x6, x7, x8, x9, x10], r.toList ++ [], m') Q))) :
    mEs d 205 b g205 (17, [some (.ref x0), some (.int x1), some (.int x2), some (.int x3), x4, x5, x6, x7, x8, x9, x10], [.long y0], m) Q := by
  refine e_lstore (pc' := 19) (dAt D205 11 rfl) rfl (Nat.le_of_ble_eq_true rfl) rfl ?_
  refine e_aload_n (pc' := 20) (dAt D205 12 rfl) rfl rfl ?_
  refine e_getfield (pc' := 23) (dAt D205 13 rfl) rfl rfl hOx0 (hT.own hOx0 23 rfl) ?_
  refine e_bipush (pc' := 25) (v := 20) (dAt D205 14 rfl) rfl (by decide) ?_
  refine e_iload_n (pc' := 26) (dAt D205 15 rfl) rfl rfl ?_
  refine e_imul (pc' := 27) (dAt D205 16 rfl) rfl ?_
  refine e_bipush (pc' := 29) (v := 10) (dAt D205 17 rfl) rfl (by decide) ?_
  refine e_iadd (pc' := 30) (dAt D205 18 rfl) rfl ?_
  refine e_iload_n (pc' := 31) (dAt D205 19 rfl) rfl rfl ?_
  refine e_iadd (pc' := 32) (dAt D205 20 rfl) rfl ?_
  obtain ⟨f1, h⟩ := h
  refine e_laload (pc' := 33) (dAt D205 21 rfl) rfl (hT.arr hOx0 23 rfl (by decide)).1 (hT.arr hOx0 23 rfl (by decide)).2 f1 rfl ?_
  exact e_call2 h (dAt D205 22 rfl) (hi2 rfl) rfl G206 (by decide) rfl (Nat.le_of_ble_eq_true rfl) rfl rfl rfl
-- PlaceNetsModel.addPair.(III)V, from 36
set_option maxRecDepth 20000 in
theorem bk205_36 {d b : Nat} {Q : Option Value → mMem → Prop} {m : mMem} {x0 : Nat} {x1 : Int32} {x2 : Int32} {x3 : Int32} {x4 : Int64} {x6 : Option Value} {x7 : Option Value} {x8 : Option Value} {x9 : Option Value} {x10 : Option Value} {y0 : Int64} (hT : mWT m) (hOx0 : m.1 x0 = some (.inr 8) ∧ x0 ≠ 0)
    (h : mEs d 205 b g205 (44, [some (.ref x0), some (.int x1), some (.int x2), some (.int x3), some (.long x4), none, some (.long y0), none, some (.long 0), none, some (.int 0)], [], m) Q) :
    mEs d 205 b g205 (36, [some (.ref x0), some (.int x1), some (.int x2), some (.int x3), some (.long x4), none, x6, x7, x8, x9, x10], [.long y0], m) Q := by
  refine e_lstore (pc' := 38) (dAt D205 23 rfl) rfl (Nat.le_of_ble_eq_true rfl) rfl ?_
  refine e_lconst (pc' := 39) (v := 0) (dAt D205 24 rfl) rfl (by decide) ?_
  refine e_lstore (pc' := 41) (dAt D205 25 rfl) rfl (Nat.le_of_ble_eq_true rfl) rfl ?_
  refine e_iconst (pc' := 42) (v := 0) (dAt D205 26 rfl) rfl (by decide) ?_
  refine e_istore (pc' := 44) (dAt D205 27 rfl) rfl (Nat.le_of_ble_eq_true rfl) rfl ?_
  exact h
-- PlaceNetsModel.addPair.(III)V, from 44
set_option maxRecDepth 20000 in
theorem bk205_44 {d b : Nat} {Q : Option Value → mMem → Prop} {m : mMem} {x0 : Nat} {x1 : Int32} {x2 : Int32} {x3 : Int32} {x4 : Int64} {x6 : Int64} {x8 : Int64} {x10 : Int32} (hT : mWT m) (hOx0 : m.1 x0 = some (.inr 8) ∧ x0 ≠ 0)
    (h : (((20 ≤ x10) → (mEs d 205 b g205 (124, [some (.ref x0), some (.int x1), some (.int x2), some (.int x3), some (.long x4), none, some (.long x6), none, some (.long x8), none, some (.int 0)], [], m) Q)) ∧ (¬ (20 ≤ x10) → ((mIn ((20 * x1) + x10) 6020 = true) ∧ ((mIn ((20 * x2) + x10) 6020 = true) ∧ ((mIn x10 20 = true) ∧ (∀ (m_1 : mMem), m_1 = (mSetJ m (64 * x0 + 26) (vp_updL (m.2.2.2.1 (64 * x0 + 26)) x10.toNatClampNeg ((x4 * (m.2.2.2.1 (64 * x0 + 24) ((20 * x1) + x10).toNatClampNeg)) + (x6 * (m.2.2.2.1 (64 * x0 + 24) ((20 * x2) + x10).toNatClampNeg))))) → (((10 ≤ x10) → (∀ (v_3 : Int32), v_3 = (x10 + 1) → mEs d 205 b g205 (44, [some (.ref x0), some (.int x1), some (.int x2), some (.int x3), some (.long x4), none, some (.long x6), none, some (.long x8), none, some (.int v_3)], [], m_1) Q)) ∧ (¬ (10 ≤ x10) → ((mIn x10 20 = true) ∧ (mEv d 207 [.long x8, .long (m_1.2.2.2.1 (64 * x0 + 26) x10.toNatClampNeg)] m_1 (fun r m' => mEs d 205 b g205 (108, [some (.ref x0), some (.int x1), some (.int x2), some (.int x3), some (.long x4), none, some (.long x6), none, some (.long x8), none, some (.int x10)], r.toList ++ [], m') Q)))))))))))) :
    mEs d 205 b g205 (44, [some (.ref x0), some (.int x1), some (.int x2), some (.int x3), some (.long x4), none, some (.long x6), none, some (.long x8), none, some (.int x10)], [], m) Q := by
  refine e_iload (pc' := 46) (dAt D205 28 rfl) rfl rfl ?_
  refine e_bipush (pc' := 48) (v := 20) (dAt D205 29 rfl) rfl (by decide) ?_
  refine e_icmp_ge (t := 121) (pc' := 51) (dAt D205 30 rfl) ⟨by decide, by decide⟩ rfl (fun c => ?_) (fun c => ?_)
  · replace h := h.1 c
    refine e_iconst (pc' := 122) (v := 0) (dAt D205 70 rfl) rfl (by decide) ?_
    refine e_istore (pc' := 124) (dAt D205 71 rfl) rfl (Nat.le_of_ble_eq_true rfl) rfl ?_
    exact h
  · replace h := h.2 c
    refine e_aload_n (pc' := 52) (dAt D205 31 rfl) rfl rfl ?_
    refine e_getfield (pc' := 55) (dAt D205 32 rfl) rfl rfl hOx0 (hT.own hOx0 25 rfl) ?_
    refine e_iload (pc' := 57) (dAt D205 33 rfl) rfl rfl ?_
    refine e_lload (pc' := 59) (dAt D205 34 rfl) rfl rfl ?_
    refine e_aload_n (pc' := 60) (dAt D205 35 rfl) rfl rfl ?_
    refine e_getfield (pc' := 63) (dAt D205 36 rfl) rfl rfl hOx0 (hT.own hOx0 23 rfl) ?_
    refine e_bipush (pc' := 65) (v := 20) (dAt D205 37 rfl) rfl (by decide) ?_
    refine e_iload_n (pc' := 66) (dAt D205 38 rfl) rfl rfl ?_
    refine e_imul (pc' := 67) (dAt D205 39 rfl) rfl ?_
    refine e_iload (pc' := 69) (dAt D205 40 rfl) rfl rfl ?_
    refine e_iadd (pc' := 70) (dAt D205 41 rfl) rfl ?_
    obtain ⟨f1, h⟩ := h
    refine e_laload (pc' := 71) (dAt D205 42 rfl) rfl (hT.arr hOx0 23 rfl (by decide)).1 (hT.arr hOx0 23 rfl (by decide)).2 f1 rfl ?_
    refine e_lmul (pc' := 72) (dAt D205 43 rfl) rfl ?_
    refine e_lload (pc' := 74) (dAt D205 44 rfl) rfl rfl ?_
    refine e_aload_n (pc' := 75) (dAt D205 45 rfl) rfl rfl ?_
    refine e_getfield (pc' := 78) (dAt D205 46 rfl) rfl rfl hOx0 (hT.own hOx0 23 rfl) ?_
    refine e_bipush (pc' := 80) (v := 20) (dAt D205 47 rfl) rfl (by decide) ?_
    refine e_iload_n (pc' := 81) (dAt D205 48 rfl) rfl rfl ?_
    refine e_imul (pc' := 82) (dAt D205 49 rfl) rfl ?_
    refine e_iload (pc' := 84) (dAt D205 50 rfl) rfl rfl ?_
    refine e_iadd (pc' := 85) (dAt D205 51 rfl) rfl ?_
    obtain ⟨f1, h⟩ := h
    refine e_laload (pc' := 86) (dAt D205 52 rfl) rfl (hT.arr hOx0 23 rfl (by decide)).1 (hT.arr hOx0 23 rfl (by decide)).2 f1 rfl ?_
    refine e_lmul (pc' := 87) (dAt D205 53 rfl) rfl ?_
    refine e_ladd (pc' := 88) (dAt D205 54 rfl) rfl ?_
    obtain ⟨f1, h⟩ := h
    replace h := h _ rfl
    refine e_lastore (pc' := 89) (dAt D205 55 rfl) rfl (hT.arr hOx0 25 rfl (by decide)).1 (hT.arr hOx0 25 rfl (by decide)).2 f1 ?_
    refine wtJ hT (fun hT_2 => ?_)
    refine e_iload (pc' := 91) (dAt D205 56 rfl) rfl rfl ?_
    refine e_bipush (pc' := 93) (v := 10) (dAt D205 57 rfl) rfl (by decide) ?_
    refine e_icmp_ge (t := 111) (pc' := 96) (dAt D205 58 rfl) ⟨by decide, by decide⟩ rfl (fun c => ?_) (fun c => ?_)
    · replace h := h.1 c
      refine e_lload (pc' := 113) (dAt D205 66 rfl) rfl rfl ?_
      refine e_lstore (pc' := 115) (dAt D205 67 rfl) rfl (Nat.le_of_ble_eq_true rfl) rfl ?_
      replace h := h _ rfl
      refine e_iinc (pc' := 118) (dAt D205 68 rfl) rfl rfl (Nat.le_of_ble_eq_true rfl) (congrArg (_ + ·) (show Int32.ofInt (1) = (1 : Int32) by decide)) rfl ?_
      refine e_goto (t := 44) (dAt D205 69 rfl) ⟨by decide, by decide⟩ ?_
      exact h
    · replace h := h.2 c
      refine e_lload (pc' := 98) (dAt D205 59 rfl) rfl rfl ?_
      refine e_aload_n (pc' := 99) (dAt D205 60 rfl) rfl rfl ?_
      refine e_getfield (pc' := 102) (dAt D205 61 rfl) rfl rfl hOx0 (hT_2.own hOx0 25 rfl) ?_
      refine e_iload (pc' := 104) (dAt D205 62 rfl) rfl rfl ?_
      obtain ⟨f1, h⟩ := h
      refine e_laload (pc' := 105) (dAt D205 63 rfl) rfl (hT_2.arr hOx0 25 rfl (by decide)).1 (hT_2.arr hOx0 25 rfl (by decide)).2 f1 rfl ?_
      exact e_call2 h (dAt D205 64 rfl) (hi2 rfl) rfl G207 (by decide) rfl (Nat.le_of_ble_eq_true rfl) rfl rfl rfl
-- PlaceNetsModel.addPair.(III)V, from 108
set_option maxRecDepth 20000 in
theorem bk205_108 {d b : Nat} {Q : Option Value → mMem → Prop} {m : mMem} {x0 : Nat} {x1 : Int32} {x2 : Int32} {x3 : Int32} {x4 : Int64} {x6 : Int64} {x8 : Int64} {x10 : Int32} {y0 : Int64} (hT : mWT m) (hOx0 : m.1 x0 = some (.inr 8) ∧ x0 ≠ 0)
    (h : ∀ (v_1 : Int32), v_1 = (x10 + 1) → mEs d 205 b g205 (44, [some (.ref x0), some (.int x1), some (.int x2), some (.int x3), some (.long x4), none, some (.long x6), none, some (.long y0), none, some (.int v_1)], [], m) Q) :
    mEs d 205 b g205 (108, [some (.ref x0), some (.int x1), some (.int x2), some (.int x3), some (.long x4), none, some (.long x6), none, some (.long x8), none, some (.int x10)], [.long y0], m) Q := by
  refine e_goto (t := 113) (dAt D205 65 rfl) ⟨by decide, by decide⟩ ?_
  refine e_lstore (pc' := 115) (dAt D205 67 rfl) rfl (Nat.le_of_ble_eq_true rfl) rfl ?_
  replace h := h _ rfl
  refine e_iinc (pc' := 118) (dAt D205 68 rfl) rfl rfl (Nat.le_of_ble_eq_true rfl) (congrArg (_ + ·) (show Int32.ofInt (1) = (1 : Int32) by decide)) rfl ?_
  refine e_goto (t := 44) (dAt D205 69 rfl) ⟨by decide, by decide⟩ ?_
  exact h
-- PlaceNetsModel.addPair.(III)V, from 124
set_option maxRecDepth 20000 in
theorem bk205_124 {d b : Nat} {Q : Option Value → mMem → Prop} {m : mMem} {x0 : Nat} {x1 : Int32} {x2 : Int32} {x3 : Int32} {x4 : Int64} {x6 : Int64} {x8 : Int64} {x10 : Int32} (hT : mWT m) (hOx0 : m.1 x0 = some (.inr 8) ∧ x0 ≠ 0)
    (h : (((20 ≤ x10) → (((¬ (iF m x0 42) = 0) → (mEs d 205 b g205 (198, [some (.ref x0), some (.int x1), some (.int x2), some (.int x3), some (.long x4), none, some (.long x6), none, some (.long x8), none, some (.int x10)], [], m) Q)) ∧ (¬ (¬ (iF m x0 42) = 0) → (mEv d 204 [.ref x0, .ref (64 * x0 + 26), .int 0] m (fun r m' => mEs d 205 b g205 (198, [some (.ref x0), some (.int x1), some (.int x2), some (.int x3), some (.long x4), none, some (.long x6), none, some (.long x8), none, some (.int x10)], r.toList ++ [], m') Q))))) ∧ (¬ (20 ≤ x10) → ((mIn x10 20 = true) ∧ ((x8 ≠ 0) ∧ ((mIn x10 20 = true) ∧ (∀ (m_1 : mMem), m_1 = (mSetJ m (64 * x0 + 26) (vp_updL (m.2.2.2.1 (64 * x0 + 26)) x10.toNatClampNeg ((m.2.2.2.1 (64 * x0 + 26) x10.toNatClampNeg) / x8))) → (((¬ (iF m_1 x0 42) = 0) → (∀ (m_3 : mMem), m_3 = (mSetF m_1 x0 42 (.int 1)) → ∀ (v_5 : Int32), v_5 = (x10 + 1) → mEs d 205 b g205 (124, [some (.ref x0), some (.int x1), some (.int x2), some (.int x3), some (.long x4), none, some (.long x6), none, some (.long x8), none, some (.int v_5)], [], m_3) Q)) ∧ (¬ (¬ (iF m_1 x0 42) = 0) → ((mIn x10 20 = true) ∧ (mEv d 206 [.long (m_1.2.2.2.1 (64 * x0 + 26) x10.toNatClampNeg)] m_1 (fun r m' => mEs d 205 b g205 (161, [some (.ref x0), some (.int x1), some (.int x2), some (.int x3), some (.long x4), none, some (.long x6), none, some (.long x8), none, some (.int x10)], r.toList ++ [.ref x0], m') Q)))))))))))) :
    mEs d 205 b g205 (124, [some (.ref x0), some (.int x1), some (.int x2), some (.int x3), some (.long x4), none, some (.long x6), none, some (.long x8), none, some (.int x10)], [], m) Q := by
  refine e_iload (pc' := 126) (dAt D205 72 rfl) rfl rfl ?_
  refine e_bipush (pc' := 128) (v := 20) (dAt D205 73 rfl) rfl (by decide) ?_
  refine e_icmp_ge (t := 182) (pc' := 131) (dAt D205 74 rfl) ⟨by decide, by decide⟩ rfl (fun c => ?_) (fun c => ?_)
  · replace h := h.1 c
    refine e_aload_n (pc' := 183) (dAt D205 101 rfl) rfl rfl ?_
    refine e_getfield (pc' := 186) (dAt D205 102 rfl) rfl rfl hOx0 (hT.int hOx0 42 (by decide)) ?_
    refine e_if_ne (t := 198) (pc' := 189) (dAt D205 103 rfl) ⟨by decide, by decide⟩ rfl (fun c => ?_) (fun c => ?_)
    · replace h := h.1 c
      exact h
    · replace h := h.2 c
      refine e_aload_n (pc' := 190) (dAt D205 104 rfl) rfl rfl ?_
      refine e_aload_n (pc' := 191) (dAt D205 105 rfl) rfl rfl ?_
      refine e_getfield (pc' := 194) (dAt D205 106 rfl) rfl rfl hOx0 (hT.own hOx0 25 rfl) ?_
      refine e_iconst (pc' := 195) (v := 0) (dAt D205 107 rfl) rfl (by decide) ?_
      exact e_call2 h (dAt D205 108 rfl) (hi0 rfl) rfl G204 (by decide) rfl (Nat.le_of_ble_eq_true rfl) (kV hOx0 rfl rfl) rfl rfl
  · replace h := h.2 c
    refine e_aload_n (pc' := 132) (dAt D205 75 rfl) rfl rfl ?_
    refine e_getfield (pc' := 135) (dAt D205 76 rfl) rfl rfl hOx0 (hT.own hOx0 25 rfl) ?_
    refine e_iload (pc' := 137) (dAt D205 77 rfl) rfl rfl ?_
    refine e_dup2 (pc' := 138) (dAt D205 78 rfl) rfl ⟨rfl, rfl⟩ ?_
    obtain ⟨f1, h⟩ := h
    refine e_laload (pc' := 139) (dAt D205 79 rfl) rfl (hT.arr hOx0 25 rfl (by decide)).1 (hT.arr hOx0 25 rfl (by decide)).2 f1 rfl ?_
    refine e_lload (pc' := 141) (dAt D205 80 rfl) rfl rfl ?_
    obtain ⟨f1, h⟩ := h
    refine e_ldiv (pc' := 142) (dAt D205 81 rfl) rfl f1 ?_
    obtain ⟨f1, h⟩ := h
    replace h := h _ rfl
    refine e_lastore (pc' := 143) (dAt D205 82 rfl) rfl (hT.arr hOx0 25 rfl (by decide)).1 (hT.arr hOx0 25 rfl (by decide)).2 f1 ?_
    refine wtJ hT (fun hT_2 => ?_)
    refine e_aload_n (pc' := 144) (dAt D205 83 rfl) rfl rfl ?_
    refine e_aload_n (pc' := 145) (dAt D205 84 rfl) rfl rfl ?_
    refine e_getfield (pc' := 148) (dAt D205 85 rfl) rfl rfl hOx0 (hT_2.int hOx0 42 (by decide)) ?_
    refine e_if_ne (t := 168) (pc' := 151) (dAt D205 86 rfl) ⟨by decide, by decide⟩ rfl (fun c => ?_) (fun c => ?_)
    · replace h := h.1 c
      refine e_iconst (pc' := 169) (v := 1) (dAt D205 95 rfl) rfl (by decide) ?_
      refine e_goto (t := 173) (dAt D205 96 rfl) ⟨by decide, by decide⟩ ?_
      replace h := h _ rfl
      refine e_putfield (pc' := 176) (dAt D205 98 rfl) rfl rfl hOx0 rfl rfl (fun e => by cases e) ?_
      refine wtF hT_2 hOx0 (by decide) (fun hT_4 => ?_)
      replace h := h _ rfl
      refine e_iinc (pc' := 179) (dAt D205 99 rfl) rfl rfl (Nat.le_of_ble_eq_true rfl) (congrArg (_ + ·) (show Int32.ofInt (1) = (1 : Int32) by decide)) rfl ?_
      refine e_goto (t := 124) (dAt D205 100 rfl) ⟨by decide, by decide⟩ ?_
      exact h
    · replace h := h.2 c
      refine e_aload_n (pc' := 152) (dAt D205 87 rfl) rfl rfl ?_
      refine e_getfield (pc' := 155) (dAt D205 88 rfl) rfl rfl hOx0 (hT_2.own hOx0 25 rfl) ?_
      refine e_iload (pc' := 157) (dAt D205 89 rfl) rfl rfl ?_
      obtain ⟨f1, h⟩ := h
      refine e_laload (pc' := 158) (dAt D205 90 rfl) rfl (hT_2.arr hOx0 25 rfl (by decide)).1 (hT_2.arr hOx0 25 rfl (by decide)).2 f1 rfl ?_
      exact e_call2 h (dAt D205 91 rfl) (hi2 rfl) rfl G206 (by decide) rfl (Nat.le_of_ble_eq_true rfl) rfl rfl rfl
-- PlaceNetsModel.addPair.(III)V, from 161
set_option maxRecDepth 20000 in
theorem bk205_161 {d b : Nat} {Q : Option Value → mMem → Prop} {m : mMem} {x0 : Nat} {x1 : Int32} {x2 : Int32} {x3 : Int32} {x4 : Int64} {x6 : Int64} {x8 : Int64} {x10 : Int32} {y0 : Nat} {y1 : Int64} (hT : mWT m) (hOx0 : m.1 x0 = some (.inr 8) ∧ x0 ≠ 0) (hOy0 : m.1 y0 = some (.inr 8) ∧ y0 ≠ 0)
    (h : ((((lg_cmp y1 1000000000) ≤ 0) → (∀ (m_1 : mMem), m_1 = (mSetF m y0 42 (.int 0)) → ∀ (v_3 : Int32), v_3 = (x10 + 1) → mEs d 205 b g205 (124, [some (.ref x0), some (.int x1), some (.int x2), some (.int x3), some (.long x4), none, some (.long x6), none, some (.long x8), none, some (.int v_3)], [], m_1) Q)) ∧ (¬ ((lg_cmp y1 1000000000) ≤ 0) → (∀ (m_4 : mMem), m_4 = (mSetF m y0 42 (.int 1)) → ∀ (v_6 : Int32), v_6 = (x10 + 1) → mEs d 205 b g205 (124, [some (.ref x0), some (.int x1), some (.int x2), some (.int x3), some (.long x4), none, some (.long x6), none, some (.long x8), none, some (.int v_6)], [], m_4) Q)))) :
    mEs d 205 b g205 (161, [some (.ref x0), some (.int x1), some (.int x2), some (.int x3), some (.long x4), none, some (.long x6), none, some (.long x8), none, some (.int x10)], [.long y1, .ref y0], m) Q := by
  refine e_ldc2_w (pc' := 164) (dAt D205 92 rfl) rfl rfl ?_
  refine e_lcmp (pc' := 165) (dAt D205 93 rfl) rfl ?_
  refine e_if_le (t := 172) (pc' := 168) (dAt D205 94 rfl) ⟨by decide, by decide⟩ rfl (fun c => ?_) (fun c => ?_)
  · replace h := h.1 c
    refine e_iconst (pc' := 173) (v := 0) (dAt D205 97 rfl) rfl (by decide) ?_
    replace h := h _ rfl
    refine e_putfield (pc' := 176) (dAt D205 98 rfl) rfl rfl hOy0 rfl rfl (fun e => by cases e) ?_
    refine wtF hT hOy0 (by decide) (fun hT_2 => ?_)
    replace h := h _ rfl
    refine e_iinc (pc' := 179) (dAt D205 99 rfl) rfl rfl (Nat.le_of_ble_eq_true rfl) (congrArg (_ + ·) (show Int32.ofInt (1) = (1 : Int32) by decide)) rfl ?_
    refine e_goto (t := 124) (dAt D205 100 rfl) ⟨by decide, by decide⟩ ?_
    exact h
  · replace h := h.2 c
    refine e_iconst (pc' := 169) (v := 1) (dAt D205 95 rfl) rfl (by decide) ?_
    refine e_goto (t := 173) (dAt D205 96 rfl) ⟨by decide, by decide⟩ ?_
    replace h := h _ rfl
    refine e_putfield (pc' := 176) (dAt D205 98 rfl) rfl rfl hOy0 rfl rfl (fun e => by cases e) ?_
    refine wtF hT hOy0 (by decide) (fun hT_5 => ?_)
    replace h := h _ rfl
    refine e_iinc (pc' := 179) (dAt D205 99 rfl) rfl rfl (Nat.le_of_ble_eq_true rfl) (congrArg (_ + ·) (show Int32.ofInt (1) = (1 : Int32) by decide)) rfl ?_
    refine e_goto (t := 124) (dAt D205 100 rfl) ⟨by decide, by decide⟩ ?_
    exact h
-- PlaceNetsModel.addPair.(III)V, from 198
set_option maxRecDepth 20000 in
theorem bk205_198 {d b : Nat} {Q : Option Value → mMem → Prop} {m : mMem} {x0 : Nat} {x1 : Int32} {x2 : Int32} {x3 : Int32} {x4 : Int64} {x6 : Int64} {x8 : Int64} {x10 : Int32} (hT : mWT m) (hOx0 : m.1 x0 = some (.inr 8) ∧ x0 ≠ 0)
    (h : Q none m) :
    mEs d 205 b g205 (198, [some (.ref x0), some (.int x1), some (.int x2), some (.int x3), some (.long x4), none, some (.long x6), none, some (.long x8), none, some (.int x10)], [], m) Q := by
  exact e_return (dAt D205 109 rfl) rfl h
-- PlaceNetsModel.size.(J)J, from 0
set_option maxRecDepth 20000 in
theorem bk206_0 {d b : Nat} {Q : Option Value → mMem → Prop} {m : mMem} {x0 : Int64} (hT : mWT m)
    (h : (((0 ≤ (lg_cmp x0 0)) → (Q (some (.long x0)) m)) ∧ (¬ (0 ≤ (lg_cmp x0 0)) → (Q (some (.long (-x0))) m)))) :
    mEs d 206 b g206 (0, [some (.long x0), none], [], m) Q := by
  refine e_lload_n (pc' := 1) (dAt D206 0 rfl) rfl rfl ?_
  refine e_lconst (pc' := 2) (v := 0) (dAt D206 1 rfl) rfl (by decide) ?_
  refine e_lcmp (pc' := 3) (dAt D206 2 rfl) rfl ?_
  refine e_if_ge (t := 11) (pc' := 6) (dAt D206 3 rfl) ⟨by decide, by decide⟩ rfl (fun c => ?_) (fun c => ?_)
  · replace h := h.1 c
    refine e_lload_n (pc' := 12) (dAt D206 7 rfl) rfl rfl ?_
    exact e_lreturn (dAt D206 8 rfl) rfl h
  · replace h := h.2 c
    refine e_lload_n (pc' := 7) (dAt D206 4 rfl) rfl rfl ?_
    refine e_lneg (pc' := 8) (dAt D206 5 rfl) rfl ?_
    refine e_goto (t := 12) (dAt D206 6 rfl) ⟨by decide, by decide⟩ ?_
    exact e_lreturn (dAt D206 8 rfl) rfl h
-- PlaceNetsModel.common.(JJ)J, from 0
set_option maxRecDepth 20000 in
theorem bk207_0 {d b : Nat} {Q : Option Value → mMem → Prop} {m : mMem} {x0 : Int64} {x2 : Int64} {x4 : Option Value} {x5 : Option Value} {x6 : Option Value} {x7 : Option Value} {x8 : Option Value} {x9 : Option Value} (hT : mWT m)
    (h : mEs d 207 b g207 (6, [some (.long x0), none, some (.long x2), none, some (.long x0), none, some (.long x2), none, x8, x9], [], m) Q) :
    mEs d 207 b g207 (0, [some (.long x0), none, some (.long x2), none, x4, x5, x6, x7, x8, x9], [], m) Q := by
  refine e_lload_n (pc' := 1) (dAt D207 0 rfl) rfl rfl ?_
  refine e_lstore (pc' := 3) (dAt D207 1 rfl) rfl (Nat.le_of_ble_eq_true rfl) rfl ?_
  refine e_lload_n (pc' := 4) (dAt D207 2 rfl) rfl rfl ?_
  refine e_lstore (pc' := 6) (dAt D207 3 rfl) rfl (Nat.le_of_ble_eq_true rfl) rfl ?_
  exact h
-- PlaceNetsModel.common.(JJ)J, from 6
set_option maxRecDepth 20000 in
theorem bk207_6 {d b : Nat} {Q : Option Value → mMem → Prop} {m : mMem} {x0 : Int64} {x2 : Int64} {x4 : Int64} {x6 : Int64} {x8 : Option Value} {x9 : Option Value} (hT : mWT m)
    (h : ((((lg_cmp x6 0) = 0) → (Q (some (.long x4)) m)) ∧ (¬ ((lg_cmp x6 0) = 0) → ((x6 ≠ 0) ∧ (∀ (v_1 : Int64), v_1 = (x4 - x4 / x6 * x6) → mEs d 207 b g207 (6, [some (.long x0), none, some (.long x2), none, some (.long x6), none, some (.long v_1), none, some (.long v_1), none], [], m) Q))))) :
    mEs d 207 b g207 (6, [some (.long x0), none, some (.long x2), none, some (.long x4), none, some (.long x6), none, x8, x9], [], m) Q := by
  refine e_lload (pc' := 8) (dAt D207 4 rfl) rfl rfl ?_
  refine e_lconst (pc' := 9) (v := 0) (dAt D207 5 rfl) rfl (by decide) ?_
  refine e_lcmp (pc' := 10) (dAt D207 6 rfl) rfl ?_
  refine e_if_eq (t := 31) (pc' := 13) (dAt D207 7 rfl) ⟨by decide, by decide⟩ rfl (fun c => ?_) (fun c => ?_)
  · replace h := h.1 c
    refine e_lload (pc' := 33) (dAt D207 17 rfl) rfl rfl ?_
    exact e_lreturn (dAt D207 18 rfl) rfl h
  · replace h := h.2 c
    refine e_lload (pc' := 15) (dAt D207 8 rfl) rfl rfl ?_
    refine e_lload (pc' := 17) (dAt D207 9 rfl) rfl rfl ?_
    obtain ⟨f1, h⟩ := h
    refine e_lrem (pc' := 18) (dAt D207 10 rfl) rfl f1 ?_
    replace h := h _ rfl
    refine e_lstore (pc' := 20) (dAt D207 11 rfl) rfl (Nat.le_of_ble_eq_true rfl) rfl ?_
    refine e_lload (pc' := 22) (dAt D207 12 rfl) rfl rfl ?_
    refine e_lstore (pc' := 24) (dAt D207 13 rfl) rfl (Nat.le_of_ble_eq_true rfl) rfl ?_
    refine e_lload (pc' := 26) (dAt D207 14 rfl) rfl rfl ?_
    refine e_lstore (pc' := 28) (dAt D207 15 rfl) rfl (Nat.le_of_ble_eq_true rfl) rfl ?_
    refine e_goto (t := 6) (dAt D207 16 rfl) ⟨by decide, by decide⟩ ?_
    exact h
-- PlaceNetsModel.goesAway.(I)Z, from 0
set_option maxRecDepth 20000 in
theorem bk208_0 {d b : Nat} {Q : Option Value → mMem → Prop} {m : mMem} {x0 : Nat} {x1 : Int32} {x2 : Option Value} {x3 : Option Value} {x4 : Option Value} {x5 : Option Value} (hT : mWT m) (hOx0 : m.1 x0 = some (.inr 8) ∧ x0 ≠ 0)
    (h : mEv d 209 [.ref x0, .ref (64 * x0 + 25), .int x1] m (fun r m' => mEs d 208 b g208 (9, [some (.ref x0), some (.int x1), x2, x3, x4, x5], r.toList ++ [], m') Q)) :
    mEs d 208 b g208 (0, [some (.ref x0), some (.int x1), x2, x3, x4, x5], [], m) Q := by
  refine e_aload_n (pc' := 1) (dAt D208 0 rfl) rfl rfl ?_
  refine e_aload_n (pc' := 2) (dAt D208 1 rfl) rfl rfl ?_
  refine e_getfield (pc' := 5) (dAt D208 2 rfl) rfl rfl hOx0 (hT.own hOx0 24 rfl) ?_
  refine e_iload_n (pc' := 6) (dAt D208 3 rfl) rfl rfl ?_
  exact e_call2 h (dAt D208 4 rfl) (hi0 rfl) rfl G209 (by decide) rfl (Nat.le_of_ble_eq_true rfl) (kV hOx0 rfl rfl) rfl rfl
-- PlaceNetsModel.goesAway.(I)Z, from 9
set_option maxRecDepth 20000 in
theorem bk208_9 {d b : Nat} {Q : Option Value → mMem → Prop} {m : mMem} {x0 : Nat} {x1 : Int32} {x2 : Option Value} {x3 : Option Value} {x4 : Option Value} {x5 : Option Value} {y0 : Int32} (hT : mWT m) (hOx0 : m.1 x0 = some (.inr 8) ∧ x0 ≠ 0)
    (h : mEs d 208 b g208 (15, [some (.ref x0), some (.int x1), some (.int y0), some (.int 0), some (.int 0), x5], [], m) Q) :
    mEs d 208 b g208 (9, [some (.ref x0), some (.int x1), x2, x3, x4, x5], [.int y0], m) Q := by
  refine e_istore_n (pc' := 10) (dAt D208 5 rfl) rfl (Nat.le_of_ble_eq_true rfl) rfl ?_
  refine e_iconst (pc' := 11) (v := 0) (dAt D208 6 rfl) rfl (by decide) ?_
  refine e_istore_n (pc' := 12) (dAt D208 7 rfl) rfl (Nat.le_of_ble_eq_true rfl) rfl ?_
  refine e_iconst (pc' := 13) (v := 0) (dAt D208 8 rfl) rfl (by decide) ?_
  refine e_istore (pc' := 15) (dAt D208 9 rfl) rfl (Nat.le_of_ble_eq_true rfl) rfl ?_
  exact h
-- PlaceNetsModel.goesAway.(I)Z, from 15
set_option maxRecDepth 20000 in
theorem bk208_15 {d b : Nat} {Q : Option Value → mMem → Prop} {m : mMem} {x0 : Nat} {x1 : Int32} {x2 : Int32} {x3 : Int32} {x4 : Int32} {x5 : Option Value} (hT : mWT m) (hOx0 : m.1 x0 = some (.inr 8) ∧ x0 ≠ 0)
    (h : ((((iF m x0 41) ≤ x4) → ((x3 = 0 ∨ x3 = 1) ∧ (Q (some (.int x3)) m))) ∧ (¬ ((iF m x0 41) ≤ x4) → (((¬ x3 = 0) → ((x3 = 0 ∨ x3 = 1) ∧ (Q (some (.int x3)) m))) ∧ (¬ (¬ x3 = 0) → (mEv d 209 [.ref x0, .ref (64 * x0 + 25), .int x4] m (fun r m' => mEs d 208 b g208 (38, [some (.ref x0), some (.int x1), some (.int x2), some (.int x3), some (.int x4), x5], r.toList ++ [], m') Q))))))) :
    mEs d 208 b g208 (15, [some (.ref x0), some (.int x1), some (.int x2), some (.int x3), some (.int x4), x5], [], m) Q := by
  refine e_iload (pc' := 17) (dAt D208 10 rfl) rfl rfl ?_
  refine e_aload_n (pc' := 18) (dAt D208 11 rfl) rfl rfl ?_
  refine e_getfield (pc' := 21) (dAt D208 12 rfl) rfl rfl hOx0 (hT.int hOx0 41 (by decide)) ?_
  refine e_icmp_ge (t := 79) (pc' := 24) (dAt D208 13 rfl) ⟨by decide, by decide⟩ rfl (fun c => ?_) (fun c => ?_)
  · replace h := h.1 c
    refine e_iload_n (pc' := 80) (dAt D208 43 rfl) rfl rfl ?_
    obtain ⟨f1, h⟩ := h
    exact e_ireturn (dAt D208 44 rfl) rfl ⟨nb01 f1, fun e => by cases e⟩ h
  · replace h := h.2 c
    refine e_iload_n (pc' := 25) (dAt D208 14 rfl) rfl rfl ?_
    refine e_if_ne (t := 79) (pc' := 28) (dAt D208 15 rfl) ⟨by decide, by decide⟩ rfl (fun c => ?_) (fun c => ?_)
    · replace h := h.1 c
      refine e_iload_n (pc' := 80) (dAt D208 43 rfl) rfl rfl ?_
      obtain ⟨f1, h⟩ := h
      exact e_ireturn (dAt D208 44 rfl) rfl ⟨nb01 f1, fun e => by cases e⟩ h
    · replace h := h.2 c
      refine e_aload_n (pc' := 29) (dAt D208 16 rfl) rfl rfl ?_
      refine e_aload_n (pc' := 30) (dAt D208 17 rfl) rfl rfl ?_
      refine e_getfield (pc' := 33) (dAt D208 18 rfl) rfl rfl hOx0 (hT.own hOx0 24 rfl) ?_
      refine e_iload (pc' := 35) (dAt D208 19 rfl) rfl rfl ?_
      exact e_call2 h (dAt D208 20 rfl) (hi0 rfl) rfl G209 (by decide) rfl (Nat.le_of_ble_eq_true rfl) (kV hOx0 rfl rfl) rfl rfl
-- PlaceNetsModel.goesAway.(I)Z, from 38
set_option maxRecDepth 20000 in
theorem bk208_38 {d b : Nat} {Q : Option Value → mMem → Prop} {m : mMem} {x0 : Nat} {x1 : Int32} {x2 : Int32} {x3 : Int32} {x4 : Int32} {x5 : Option Value} {y0 : Int32} (hT : mWT m) (hOx0 : m.1 x0 = some (.inr 8) ∧ x0 ≠ 0)
    (h : (((x4 = x1) → (∀ (v_1 : Int32), v_1 = (x4 + 1) → mEs d 208 b g208 (15, [some (.ref x0), some (.int x1), some (.int x2), some (.int 0), some (.int v_1), some (.int y0)], [], m) Q)) ∧ (¬ (x4 = x1) → (((¬ (y0 &&& (x2 ^^^ ((-1)))) = 0) → (∀ (v_2 : Int32), v_2 = (x4 + 1) → mEs d 208 b g208 (15, [some (.ref x0), some (.int x1), some (.int x2), some (.int 0), some (.int v_2), some (.int y0)], [], m) Q)) ∧ (¬ (¬ (y0 &&& (x2 ^^^ ((-1)))) = 0) → (((¬ y0 = x2) → (∀ (v_3 : Int32), v_3 = (x4 + 1) → mEs d 208 b g208 (15, [some (.ref x0), some (.int x1), some (.int x2), some (.int 1), some (.int v_3), some (.int y0)], [], m) Q)) ∧ (¬ (¬ y0 = x2) → (((x1 ≤ x4) → (∀ (v_4 : Int32), v_4 = (x4 + 1) → mEs d 208 b g208 (15, [some (.ref x0), some (.int x1), some (.int x2), some (.int 0), some (.int v_4), some (.int y0)], [], m) Q)) ∧ (¬ (x1 ≤ x4) → (∀ (v_5 : Int32), v_5 = (x4 + 1) → mEs d 208 b g208 (15, [some (.ref x0), some (.int x1), some (.int x2), some (.int 1), some (.int v_5), some (.int y0)], [], m) Q)))))))))) :
    mEs d 208 b g208 (38, [some (.ref x0), some (.int x1), some (.int x2), some (.int x3), some (.int x4), x5], [.int y0], m) Q := by
  refine e_istore (pc' := 40) (dAt D208 21 rfl) rfl (Nat.le_of_ble_eq_true rfl) rfl ?_
  refine e_iload (pc' := 42) (dAt D208 22 rfl) rfl rfl ?_
  refine e_iload_n (pc' := 43) (dAt D208 23 rfl) rfl rfl ?_
  refine e_icmp_eq (t := 71) (pc' := 46) (dAt D208 24 rfl) ⟨by decide, by decide⟩ rfl (fun c => ?_) (fun c => ?_)
  · replace h := h.1 c
    refine e_iconst (pc' := 72) (v := 0) (dAt D208 39 rfl) rfl (by decide) ?_
    refine e_istore_n (pc' := 73) (dAt D208 40 rfl) rfl (Nat.le_of_ble_eq_true rfl) rfl ?_
    replace h := h _ rfl
    refine e_iinc (pc' := 76) (dAt D208 41 rfl) rfl rfl (Nat.le_of_ble_eq_true rfl) (congrArg (_ + ·) (show Int32.ofInt (1) = (1 : Int32) by decide)) rfl ?_
    refine e_goto (t := 15) (dAt D208 42 rfl) ⟨by decide, by decide⟩ ?_
    exact h
  · replace h := h.2 c
    refine e_iload (pc' := 48) (dAt D208 25 rfl) rfl rfl ?_
    refine e_iload_n (pc' := 49) (dAt D208 26 rfl) rfl rfl ?_
    refine e_iconst (pc' := 50) (v := (-1)) (dAt D208 27 rfl) rfl (by decide) ?_
    refine e_ixor (pc' := 51) (dAt D208 28 rfl) rfl ?_
    refine e_iand (pc' := 52) (dAt D208 29 rfl) rfl ?_
    refine e_if_ne (t := 71) (pc' := 55) (dAt D208 30 rfl) ⟨by decide, by decide⟩ rfl (fun c => ?_) (fun c => ?_)
    · replace h := h.1 c
      refine e_iconst (pc' := 72) (v := 0) (dAt D208 39 rfl) rfl (by decide) ?_
      refine e_istore_n (pc' := 73) (dAt D208 40 rfl) rfl (Nat.le_of_ble_eq_true rfl) rfl ?_
      replace h := h _ rfl
      refine e_iinc (pc' := 76) (dAt D208 41 rfl) rfl rfl (Nat.le_of_ble_eq_true rfl) (congrArg (_ + ·) (show Int32.ofInt (1) = (1 : Int32) by decide)) rfl ?_
      refine e_goto (t := 15) (dAt D208 42 rfl) ⟨by decide, by decide⟩ ?_
      exact h
    · replace h := h.2 c
      refine e_iload (pc' := 57) (dAt D208 31 rfl) rfl rfl ?_
      refine e_iload_n (pc' := 58) (dAt D208 32 rfl) rfl rfl ?_
      refine e_icmp_ne (t := 67) (pc' := 61) (dAt D208 33 rfl) ⟨by decide, by decide⟩ rfl (fun c => ?_) (fun c => ?_)
      · replace h := h.1 c
        refine e_iconst (pc' := 68) (v := 1) (dAt D208 37 rfl) rfl (by decide) ?_
        refine e_goto (t := 72) (dAt D208 38 rfl) ⟨by decide, by decide⟩ ?_
        refine e_istore_n (pc' := 73) (dAt D208 40 rfl) rfl (Nat.le_of_ble_eq_true rfl) rfl ?_
        replace h := h _ rfl
        refine e_iinc (pc' := 76) (dAt D208 41 rfl) rfl rfl (Nat.le_of_ble_eq_true rfl) (congrArg (_ + ·) (show Int32.ofInt (1) = (1 : Int32) by decide)) rfl ?_
        refine e_goto (t := 15) (dAt D208 42 rfl) ⟨by decide, by decide⟩ ?_
        exact h
      · replace h := h.2 c
        refine e_iload (pc' := 63) (dAt D208 34 rfl) rfl rfl ?_
        refine e_iload_n (pc' := 64) (dAt D208 35 rfl) rfl rfl ?_
        refine e_icmp_ge (t := 71) (pc' := 67) (dAt D208 36 rfl) ⟨by decide, by decide⟩ rfl (fun c => ?_) (fun c => ?_)
        · replace h := h.1 c
          refine e_iconst (pc' := 72) (v := 0) (dAt D208 39 rfl) rfl (by decide) ?_
          refine e_istore_n (pc' := 73) (dAt D208 40 rfl) rfl (Nat.le_of_ble_eq_true rfl) rfl ?_
          replace h := h _ rfl
          refine e_iinc (pc' := 76) (dAt D208 41 rfl) rfl rfl (Nat.le_of_ble_eq_true rfl) (congrArg (_ + ·) (show Int32.ofInt (1) = (1 : Int32) by decide)) rfl ?_
          refine e_goto (t := 15) (dAt D208 42 rfl) ⟨by decide, by decide⟩ ?_
          exact h
        · replace h := h.2 c
          refine e_iconst (pc' := 68) (v := 1) (dAt D208 37 rfl) rfl (by decide) ?_
          refine e_goto (t := 72) (dAt D208 38 rfl) ⟨by decide, by decide⟩ ?_
          refine e_istore_n (pc' := 73) (dAt D208 40 rfl) rfl (Nat.le_of_ble_eq_true rfl) rfl ?_
          replace h := h _ rfl
          refine e_iinc (pc' := 76) (dAt D208 41 rfl) rfl rfl (Nat.le_of_ble_eq_true rfl) (congrArg (_ + ·) (show Int32.ofInt (1) = (1 : Int32) by decide)) rfl ?_
          refine e_goto (t := 15) (dAt D208 42 rfl) ⟨by decide, by decide⟩ ?_
          exact h
-- PlaceNetsModel.support.([JI)I, from 0
set_option maxRecDepth 20000 in
theorem bk209_0 {d b : Nat} {Q : Option Value → mMem → Prop} {m : mMem} {x0 : Nat} {x1 : Nat} {lx1 : Nat} {x2 : Int32} {x3 : Option Value} {x4 : Option Value} (hT : mWT m) (hOx0 : m.1 x0 = some (.inr 8) ∧ x0 ≠ 0) (hAx1 : m.1 x1 = some (.inl (.long, lx1)) ∧ x1 ≠ 0)
    (h : mEs d 209 b g209 (5, [some (.ref x0), some (.ref x1), some (.int x2), some (.int 0), some (.int 0)], [], m) Q) :
    mEs d 209 b g209 (0, [some (.ref x0), some (.ref x1), some (.int x2), x3, x4], [], m) Q := by
  refine e_iconst (pc' := 1) (v := 0) (dAt D209 0 rfl) rfl (by decide) ?_
  refine e_istore_n (pc' := 2) (dAt D209 1 rfl) rfl (Nat.le_of_ble_eq_true rfl) rfl ?_
  refine e_iconst (pc' := 3) (v := 0) (dAt D209 2 rfl) rfl (by decide) ?_
  refine e_istore (pc' := 5) (dAt D209 3 rfl) rfl (Nat.le_of_ble_eq_true rfl) rfl ?_
  exact h
-- PlaceNetsModel.support.([JI)I, from 5
set_option maxRecDepth 20000 in
theorem bk209_5 {d b : Nat} {Q : Option Value → mMem → Prop} {m : mMem} {x0 : Nat} {x1 : Nat} {lx1 : Nat} {x2 : Int32} {x3 : Int32} {x4 : Int32} (hT : mWT m) (hOx0 : m.1 x0 = some (.inr 8) ∧ x0 ≠ 0) (hAx1 : m.1 x1 = some (.inl (.long, lx1)) ∧ x1 ≠ 0)
    (h : (((10 ≤ x4) → (Q (some (.int x3)) m)) ∧ (¬ (10 ≤ x4) → ((mIn ((20 * x2) + x4) lx1 = true) ∧ ((((lg_cmp (m.2.2.2.1 x1 ((20 * x2) + x4).toNatClampNeg) 0) = 0) → (∀ (v_1 : Int32), v_1 = (x3 ||| 0) → ∀ (v_2 : Int32), v_2 = (x4 + 1) → mEs d 209 b g209 (5, [some (.ref x0), some (.ref x1), some (.int x2), some (.int v_1), some (.int v_2)], [], m) Q)) ∧ (¬ ((lg_cmp (m.2.2.2.1 x1 ((20 * x2) + x4).toNatClampNeg) 0) = 0) → (∀ (v_3 : Int32), v_3 = (x3 ||| ((1 : Int32) <<< (x4 &&& 31))) → ∀ (v_4 : Int32), v_4 = (x4 + 1) → mEs d 209 b g209 (5, [some (.ref x0), some (.ref x1), some (.int x2), some (.int v_3), some (.int v_4)], [], m) Q))))))) :
    mEs d 209 b g209 (5, [some (.ref x0), some (.ref x1), some (.int x2), some (.int x3), some (.int x4)], [], m) Q := by
  refine e_iload (pc' := 7) (dAt D209 4 rfl) rfl rfl ?_
  refine e_bipush (pc' := 9) (v := 10) (dAt D209 5 rfl) rfl (by decide) ?_
  refine e_icmp_ge (t := 43) (pc' := 12) (dAt D209 6 rfl) ⟨by decide, by decide⟩ rfl (fun c => ?_) (fun c => ?_)
  · replace h := h.1 c
    refine e_iload_n (pc' := 44) (dAt D209 27 rfl) rfl rfl ?_
    exact e_ireturn (dAt D209 28 rfl) rfl ⟨rfl, fun e => by cases e⟩ h
  · replace h := h.2 c
    refine e_iload_n (pc' := 13) (dAt D209 7 rfl) rfl rfl ?_
    refine e_aload_n (pc' := 14) (dAt D209 8 rfl) rfl rfl ?_
    refine e_bipush (pc' := 16) (v := 20) (dAt D209 9 rfl) rfl (by decide) ?_
    refine e_iload_n (pc' := 17) (dAt D209 10 rfl) rfl rfl ?_
    refine e_imul (pc' := 18) (dAt D209 11 rfl) rfl ?_
    refine e_iload (pc' := 20) (dAt D209 12 rfl) rfl rfl ?_
    refine e_iadd (pc' := 21) (dAt D209 13 rfl) rfl ?_
    obtain ⟨f1, h⟩ := h
    refine e_laload (pc' := 22) (dAt D209 14 rfl) rfl hAx1.1 hAx1.2 f1 rfl ?_
    refine e_lconst (pc' := 23) (v := 0) (dAt D209 15 rfl) rfl (by decide) ?_
    refine e_lcmp (pc' := 24) (dAt D209 16 rfl) rfl ?_
    refine e_if_eq (t := 34) (pc' := 27) (dAt D209 17 rfl) ⟨by decide, by decide⟩ rfl (fun c => ?_) (fun c => ?_)
    · replace h := h.1 c
      refine e_iconst (pc' := 35) (v := 0) (dAt D209 22 rfl) rfl (by decide) ?_
      refine e_ior (pc' := 36) (dAt D209 23 rfl) rfl ?_
      replace h := h _ rfl
      refine e_istore_n (pc' := 37) (dAt D209 24 rfl) rfl (Nat.le_of_ble_eq_true rfl) rfl ?_
      replace h := h _ rfl
      refine e_iinc (pc' := 40) (dAt D209 25 rfl) rfl rfl (Nat.le_of_ble_eq_true rfl) (congrArg (_ + ·) (show Int32.ofInt (1) = (1 : Int32) by decide)) rfl ?_
      refine e_goto (t := 5) (dAt D209 26 rfl) ⟨by decide, by decide⟩ ?_
      exact h
    · replace h := h.2 c
      refine e_iconst (pc' := 28) (v := 1) (dAt D209 18 rfl) rfl (by decide) ?_
      refine e_iload (pc' := 30) (dAt D209 19 rfl) rfl rfl ?_
      refine e_ishl (pc' := 31) (dAt D209 20 rfl) rfl ?_
      refine e_goto (t := 35) (dAt D209 21 rfl) ⟨by decide, by decide⟩ ?_
      refine e_ior (pc' := 36) (dAt D209 23 rfl) rfl ?_
      replace h := h _ rfl
      refine e_istore_n (pc' := 37) (dAt D209 24 rfl) rfl (Nat.le_of_ble_eq_true rfl) rfl ?_
      replace h := h _ rfl
      refine e_iinc (pc' := 40) (dAt D209 25 rfl) rfl rfl (Nat.le_of_ble_eq_true rfl) (congrArg (_ + ·) (show Int32.ofInt (1) = (1 : Int32) by decide)) rfl ?_
      refine e_goto (t := 5) (dAt D209 26 rfl) ⟨by decide, by decide⟩ ?_
      exact h
-- PlaceNetsModel.kept.(I)I, from 0
set_option maxRecDepth 20000 in
theorem bk210_0 {d b : Nat} {Q : Option Value → mMem → Prop} {m : mMem} {x0 : Nat} {x1 : Int32} {x2 : Option Value} {x3 : Option Value} {x4 : Option Value} (hT : mWT m) (hOx0 : m.1 x0 = some (.inr 8) ∧ x0 ≠ 0)
    (h : ∀ (m_1 : mMem), m_1 = (mSetF m x0 0 (.int 0)) → ((((iF m_1 x0 18) = 0) → (Q (some (.int ((-1)))) m_1)) ∧ (¬ ((iF m_1 x0 18) = 0) → (((0 ≤ x1) → (mEv d 201 [.ref x0, .int 0] m_1 (fun r m' => mEs d 210 b g210 (23, [some (.ref x0), some (.int x1), x2, x3, x4], r.toList ++ [], m') Q))) ∧ (¬ (0 ≤ x1) → (Q (some (.int ((-1)))) m_1)))))) :
    mEs d 210 b g210 (0, [some (.ref x0), some (.int x1), x2, x3, x4], [], m) Q := by
  refine e_aload_n (pc' := 1) (dAt D210 0 rfl) rfl rfl ?_
  refine e_iconst (pc' := 2) (v := 0) (dAt D210 1 rfl) rfl (by decide) ?_
  replace h := h _ rfl
  refine e_putfield (pc' := 5) (dAt D210 2 rfl) rfl rfl hOx0 rfl rfl (fun e => by cases e) ?_
  refine wtF hT hOx0 (by decide) (fun hT_2 => ?_)
  refine e_aload_n (pc' := 6) (dAt D210 3 rfl) rfl rfl ?_
  refine e_getfield (pc' := 9) (dAt D210 4 rfl) rfl rfl hOx0 (hT_2.int hOx0 18 (by decide)) ?_
  refine e_if_eq (t := 16) (pc' := 12) (dAt D210 5 rfl) ⟨by decide, by decide⟩ rfl (fun c => ?_) (fun c => ?_)
  · replace h := h.1 c
    refine e_iconst (pc' := 17) (v := (-1)) (dAt D210 8 rfl) rfl (by decide) ?_
    exact e_ireturn (dAt D210 9 rfl) rfl ⟨rfl, fun e => by cases e⟩ h
  · replace h := h.2 c
    refine e_iload_n (pc' := 13) (dAt D210 6 rfl) rfl rfl ?_
    refine e_if_ge (t := 18) (pc' := 16) (dAt D210 7 rfl) ⟨by decide, by decide⟩ rfl (fun c => ?_) (fun c => ?_)
    · replace h := h.1 c
      refine e_aload_n (pc' := 19) (dAt D210 10 rfl) rfl rfl ?_
      refine e_iconst (pc' := 20) (v := 0) (dAt D210 11 rfl) rfl (by decide) ?_
      exact e_call2 h (dAt D210 12 rfl) (hi0 rfl) rfl G201 (by decide) rfl (Nat.le_of_ble_eq_true rfl) (kV hOx0 rfl rfl) rfl rfl
    · replace h := h.2 c
      refine e_iconst (pc' := 17) (v := (-1)) (dAt D210 8 rfl) rfl (by decide) ?_
      exact e_ireturn (dAt D210 9 rfl) rfl ⟨rfl, fun e => by cases e⟩ h
-- PlaceNetsModel.kept.(I)I, from 23
set_option maxRecDepth 20000 in
theorem bk210_23 {d b : Nat} {Q : Option Value → mMem → Prop} {m : mMem} {x0 : Nat} {x1 : Int32} {x2 : Option Value} {x3 : Option Value} {x4 : Option Value} (hT : mWT m) (hOx0 : m.1 x0 = some (.inr 8) ∧ x0 ≠ 0)
    (h : (mIn 0 2 = true) ∧ (((¬ (m.2.2.1 (64 * x0 + 22) (0 : Int32).toNatClampNeg) = ((-2))) → ((mIn 0 2 = true) ∧ (((x1 < (m.2.2.1 (64 * x0 + 22) (0 : Int32).toNatClampNeg)) → (mEs d 210 b g210 (54, [some (.ref x0), some (.int x1), some (.long 0), none, some (.int 0)], [], m) Q)) ∧ (¬ (x1 < (m.2.2.1 (64 * x0 + 22) (0 : Int32).toNatClampNeg)) → (Q (some (.int ((-1)))) m))))) ∧ (¬ (¬ (m.2.2.1 (64 * x0 + 22) (0 : Int32).toNatClampNeg) = ((-2))) → (Q (some (.int ((-2)))) m)))) :
    mEs d 210 b g210 (23, [some (.ref x0), some (.int x1), x2, x3, x4], [], m) Q := by
  refine e_aload_n (pc' := 24) (dAt D210 13 rfl) rfl rfl ?_
  refine e_getfield (pc' := 27) (dAt D210 14 rfl) rfl rfl hOx0 (hT.own hOx0 21 rfl) ?_
  refine e_iconst (pc' := 28) (v := 0) (dAt D210 15 rfl) rfl (by decide) ?_
  obtain ⟨f1, h⟩ := h
  refine e_iaload (pc' := 29) (dAt D210 16 rfl) rfl (hT.arr hOx0 21 rfl (by decide)).1 (Or.inl (hT.arr hOx0 21 rfl (by decide)).2) f1 rfl ?_
  refine e_bipush (pc' := 31) (v := (-2)) (dAt D210 17 rfl) rfl (by decide) ?_
  refine e_icmp_ne (t := 37) (pc' := 34) (dAt D210 18 rfl) ⟨by decide, by decide⟩ rfl (fun c => ?_) (fun c => ?_)
  · replace h := h.1 c
    refine e_iload_n (pc' := 38) (dAt D210 21 rfl) rfl rfl ?_
    refine e_aload_n (pc' := 39) (dAt D210 22 rfl) rfl rfl ?_
    refine e_getfield (pc' := 42) (dAt D210 23 rfl) rfl rfl hOx0 (hT.own hOx0 21 rfl) ?_
    refine e_iconst (pc' := 43) (v := 0) (dAt D210 24 rfl) rfl (by decide) ?_
    obtain ⟨f1, h⟩ := h
    refine e_iaload (pc' := 44) (dAt D210 25 rfl) rfl (hT.arr hOx0 21 rfl (by decide)).1 (Or.inl (hT.arr hOx0 21 rfl (by decide)).2) f1 rfl ?_
    refine e_icmp_lt (t := 49) (pc' := 47) (dAt D210 26 rfl) ⟨by decide, by decide⟩ rfl (fun c => ?_) (fun c => ?_)
    · replace h := h.1 c
      refine e_lconst (pc' := 50) (v := 0) (dAt D210 29 rfl) rfl (by decide) ?_
      refine e_lstore_n (pc' := 51) (dAt D210 30 rfl) rfl (Nat.le_of_ble_eq_true rfl) rfl ?_
      refine e_iconst (pc' := 52) (v := 0) (dAt D210 31 rfl) rfl (by decide) ?_
      refine e_istore (pc' := 54) (dAt D210 32 rfl) rfl (Nat.le_of_ble_eq_true rfl) rfl ?_
      exact h
    · replace h := h.2 c
      refine e_iconst (pc' := 48) (v := (-1)) (dAt D210 27 rfl) rfl (by decide) ?_
      exact e_ireturn (dAt D210 28 rfl) rfl ⟨rfl, fun e => by cases e⟩ h
  · replace h := h.2 c
    refine e_bipush (pc' := 36) (v := (-2)) (dAt D210 19 rfl) rfl (by decide) ?_
    exact e_ireturn (dAt D210 20 rfl) rfl ⟨rfl, fun e => by cases e⟩ h
-- PlaceNetsModel.kept.(I)I, from 54
set_option maxRecDepth 20000 in
theorem bk210_54 {d b : Nat} {Q : Option Value → mMem → Prop} {m : mMem} {x0 : Nat} {x1 : Int32} {x2 : Int64} {x4 : Int32} (hT : mWT m) (hOx0 : m.1 x0 = some (.inr 8) ∧ x0 ≠ 0)
    (h : ((((iF m x0 6) ≤ x4) → ((((lg_cmp x2 2147483647) ≤ 0) → (Q (some (.int x2.toInt32)) m)) ∧ (¬ ((lg_cmp x2 2147483647) ≤ 0) → (Q (some (.int 2147483647)) m)))) ∧ (¬ ((iF m x0 6) ≤ x4) → ((mIn x4 10 = true) ∧ ((mIn ((10 * x1) + x4) 6000 = true) ∧ (∀ (v_1 : Int64), v_1 = (x2 + (((m.2.2.1 (64 * x0 + 4) x4.toNatClampNeg).toInt64) * ((m.2.2.1 (64 * x0 + 23) ((10 * x1) + x4).toNatClampNeg).toInt64))) → ∀ (v_2 : Int32), v_2 = (x4 + 1) → mEs d 210 b g210 (54, [some (.ref x0), some (.int x1), some (.long v_1), none, some (.int v_2)], [], m) Q)))))) :
    mEs d 210 b g210 (54, [some (.ref x0), some (.int x1), some (.long x2), none, some (.int x4)], [], m) Q := by
  refine e_iload (pc' := 56) (dAt D210 33 rfl) rfl rfl ?_
  refine e_aload_n (pc' := 57) (dAt D210 34 rfl) rfl rfl ?_
  refine e_getfield (pc' := 60) (dAt D210 35 rfl) rfl rfl hOx0 (hT.int hOx0 6 (by decide)) ?_
  refine e_icmp_ge (t := 94) (pc' := 63) (dAt D210 36 rfl) ⟨by decide, by decide⟩ rfl (fun c => ?_) (fun c => ?_)
  · replace h := h.1 c
    refine e_lload_n (pc' := 95) (dAt D210 57 rfl) rfl rfl ?_
    refine e_ldc2_w (pc' := 98) (dAt D210 58 rfl) rfl rfl ?_
    refine e_lcmp (pc' := 99) (dAt D210 59 rfl) rfl ?_
    refine e_if_le (t := 108) (pc' := 102) (dAt D210 60 rfl) ⟨by decide, by decide⟩ rfl (fun c => ?_) (fun c => ?_)
    · replace h := h.1 c
      refine e_lload_n (pc' := 109) (dAt D210 63 rfl) rfl rfl ?_
      refine e_l2i (pc' := 110) (dAt D210 64 rfl) rfl ?_
      exact e_ireturn (dAt D210 65 rfl) rfl ⟨rfl, fun e => by cases e⟩ h
    · replace h := h.2 c
      refine e_ldc_w (pc' := 105) (dAt D210 61 rfl) rfl rfl ?_
      refine e_goto (t := 110) (dAt D210 62 rfl) ⟨by decide, by decide⟩ ?_
      exact e_ireturn (dAt D210 65 rfl) rfl ⟨rfl, fun e => by cases e⟩ h
  · replace h := h.2 c
    refine e_lload_n (pc' := 64) (dAt D210 37 rfl) rfl rfl ?_
    refine e_aload_n (pc' := 65) (dAt D210 38 rfl) rfl rfl ?_
    refine e_getfield (pc' := 68) (dAt D210 39 rfl) rfl rfl hOx0 (hT.own hOx0 3 rfl) ?_
    refine e_iload (pc' := 70) (dAt D210 40 rfl) rfl rfl ?_
    obtain ⟨f1, h⟩ := h
    refine e_iaload (pc' := 71) (dAt D210 41 rfl) rfl (hT.arr hOx0 3 rfl (by decide)).1 (Or.inl (hT.arr hOx0 3 rfl (by decide)).2) f1 rfl ?_
    refine e_i2l (pc' := 72) (dAt D210 42 rfl) rfl ?_
    refine e_aload_n (pc' := 73) (dAt D210 43 rfl) rfl rfl ?_
    refine e_getfield (pc' := 76) (dAt D210 44 rfl) rfl rfl hOx0 (hT.own hOx0 22 rfl) ?_
    refine e_bipush (pc' := 78) (v := 10) (dAt D210 45 rfl) rfl (by decide) ?_
    refine e_iload_n (pc' := 79) (dAt D210 46 rfl) rfl rfl ?_
    refine e_imul (pc' := 80) (dAt D210 47 rfl) rfl ?_
    refine e_iload (pc' := 82) (dAt D210 48 rfl) rfl rfl ?_
    refine e_iadd (pc' := 83) (dAt D210 49 rfl) rfl ?_
    obtain ⟨f1, h⟩ := h
    refine e_iaload (pc' := 84) (dAt D210 50 rfl) rfl (hT.arr hOx0 22 rfl (by decide)).1 (Or.inl (hT.arr hOx0 22 rfl (by decide)).2) f1 rfl ?_
    refine e_i2l (pc' := 85) (dAt D210 51 rfl) rfl ?_
    refine e_lmul (pc' := 86) (dAt D210 52 rfl) rfl ?_
    refine e_ladd (pc' := 87) (dAt D210 53 rfl) rfl ?_
    replace h := h _ rfl
    refine e_lstore_n (pc' := 88) (dAt D210 54 rfl) rfl (Nat.le_of_ble_eq_true rfl) rfl ?_
    replace h := h _ rfl
    refine e_iinc (pc' := 91) (dAt D210 55 rfl) rfl rfl (Nat.le_of_ble_eq_true rfl) (congrArg (_ + ·) (show Int32.ofInt (1) = (1 : Int32) by decide)) rfl ?_
    refine e_goto (t := 54) (dAt D210 56 rfl) ⟨by decide, by decide⟩ ?_
    exact h
-- PlaceNetsModel.least.(II)I, from 0
set_option maxRecDepth 20000 in
theorem bk211_0 {d b : Nat} {Q : Option Value → mMem → Prop} {m : mMem} {x0 : Nat} {x1 : Int32} {x2 : Int32} {x3 : Option Value} {x4 : Option Value} (hT : mWT m) (hOx0 : m.1 x0 = some (.inr 8) ∧ x0 ≠ 0)
    (h : ∀ (m_1 : mMem), m_1 = (mSetF m x0 0 (.int 0)) → ((((iF m_1 x0 18) = 0) → (Q (some (.int ((-1)))) m_1)) ∧ (¬ ((iF m_1 x0 18) = 0) → (mEv d 151 [.long x1.toInt64, .long 0, .long 1] m_1 (fun r m' => mEs d 211 b g211 (19, [some (.ref x0), some (.int x1), some (.int x2), x3, x4], r.toList ++ [], m') Q))))) :
    mEs d 211 b g211 (0, [some (.ref x0), some (.int x1), some (.int x2), x3, x4], [], m) Q := by
  refine e_aload_n (pc' := 1) (dAt D211 0 rfl) rfl rfl ?_
  refine e_iconst (pc' := 2) (v := 0) (dAt D211 1 rfl) rfl (by decide) ?_
  replace h := h _ rfl
  refine e_putfield (pc' := 5) (dAt D211 2 rfl) rfl rfl hOx0 rfl rfl (fun e => by cases e) ?_
  refine wtF hT hOx0 (by decide) (fun hT_2 => ?_)
  refine e_aload_n (pc' := 6) (dAt D211 3 rfl) rfl rfl ?_
  refine e_getfield (pc' := 9) (dAt D211 4 rfl) rfl rfl hOx0 (hT_2.int hOx0 18 (by decide)) ?_
  refine e_if_eq (t := 27) (pc' := 12) (dAt D211 5 rfl) ⟨by decide, by decide⟩ rfl (fun c => ?_) (fun c => ?_)
  · replace h := h.1 c
    refine e_iconst (pc' := 28) (v := (-1)) (dAt D211 15 rfl) rfl (by decide) ?_
    exact e_ireturn (dAt D211 16 rfl) rfl ⟨rfl, fun e => by cases e⟩ h
  · replace h := h.2 c
    refine e_iload_n (pc' := 13) (dAt D211 6 rfl) rfl rfl ?_
    refine e_i2l (pc' := 14) (dAt D211 7 rfl) rfl ?_
    refine e_lconst (pc' := 15) (v := 0) (dAt D211 8 rfl) rfl (by decide) ?_
    refine e_lconst (pc' := 16) (v := 1) (dAt D211 9 rfl) rfl (by decide) ?_
    exact e_call2 h (dAt D211 10 rfl) (hi2 rfl) rfl G151 (by decide) rfl (Nat.le_of_ble_eq_true rfl) rfl rfl rfl
-- PlaceNetsModel.least.(II)I, from 19
set_option maxRecDepth 20000 in
theorem bk211_19 {d b : Nat} {Q : Option Value → mMem → Prop} {m : mMem} {x0 : Nat} {x1 : Int32} {x2 : Int32} {x3 : Option Value} {x4 : Option Value} {y0 : Int32} (hT : mWT m) (hOx0 : m.1 x0 = some (.inr 8) ∧ x0 ≠ 0)
    (h : (((y0 = 0) → (Q (some (.int ((-1)))) m)) ∧ (¬ (y0 = 0) → (((((-1)) ≤ x2) → (mEv d 212 [.ref x0, .int x1] m (fun r m' => mEs d 211 b g211 (34, [some (.ref x0), some (.int x1), some (.int x2), x3, x4], r.toList ++ [], m') Q))) ∧ (¬ (((-1)) ≤ x2) → (Q (some (.int ((-1)))) m)))))) :
    mEs d 211 b g211 (19, [some (.ref x0), some (.int x1), some (.int x2), x3, x4], [.int y0], m) Q := by
  refine e_if_eq (t := 27) (pc' := 22) (dAt D211 11 rfl) ⟨by decide, by decide⟩ rfl (fun c => ?_) (fun c => ?_)
  · replace h := h.1 c
    refine e_iconst (pc' := 28) (v := (-1)) (dAt D211 15 rfl) rfl (by decide) ?_
    exact e_ireturn (dAt D211 16 rfl) rfl ⟨rfl, fun e => by cases e⟩ h
  · replace h := h.2 c
    refine e_iload_n (pc' := 23) (dAt D211 12 rfl) rfl rfl ?_
    refine e_iconst (pc' := 24) (v := (-1)) (dAt D211 13 rfl) rfl (by decide) ?_
    refine e_icmp_ge (t := 29) (pc' := 27) (dAt D211 14 rfl) ⟨by decide, by decide⟩ rfl (fun c => ?_) (fun c => ?_)
    · replace h := h.1 c
      refine e_aload_n (pc' := 30) (dAt D211 17 rfl) rfl rfl ?_
      refine e_iload_n (pc' := 31) (dAt D211 18 rfl) rfl rfl ?_
      exact e_call2 h (dAt D211 19 rfl) (hi0 rfl) rfl G212 (by decide) rfl (Nat.le_of_ble_eq_true rfl) (kV hOx0 rfl rfl) rfl rfl
    · replace h := h.2 c
      refine e_iconst (pc' := 28) (v := (-1)) (dAt D211 15 rfl) rfl (by decide) ?_
      exact e_ireturn (dAt D211 16 rfl) rfl ⟨rfl, fun e => by cases e⟩ h
-- PlaceNetsModel.least.(II)I, from 34
set_option maxRecDepth 20000 in
theorem bk211_34 {d b : Nat} {Q : Option Value → mMem → Prop} {m : mMem} {x0 : Nat} {x1 : Int32} {x2 : Int32} {x3 : Option Value} {x4 : Option Value} (hT : mWT m) (hOx0 : m.1 x0 = some (.inr 8) ∧ x0 ≠ 0)
    (h : mEs d 211 b g211 (39, [some (.ref x0), some (.int x1), some (.int x2), some (.int 0), some (.int 1)], [], m) Q) :
    mEs d 211 b g211 (34, [some (.ref x0), some (.int x1), some (.int x2), x3, x4], [], m) Q := by
  refine e_iconst (pc' := 35) (v := 0) (dAt D211 20 rfl) rfl (by decide) ?_
  refine e_istore_n (pc' := 36) (dAt D211 21 rfl) rfl (Nat.le_of_ble_eq_true rfl) rfl ?_
  refine e_iconst (pc' := 37) (v := 1) (dAt D211 22 rfl) rfl (by decide) ?_
  refine e_istore (pc' := 39) (dAt D211 23 rfl) rfl (Nat.le_of_ble_eq_true rfl) rfl ?_
  exact h
-- PlaceNetsModel.least.(II)I, from 39
set_option maxRecDepth 20000 in
theorem bk211_39 {d b : Nat} {Q : Option Value → mMem → Prop} {m : mMem} {x0 : Nat} {x1 : Int32} {x2 : Int32} {x3 : Int32} {x4 : Int32} (hT : mWT m) (hOx0 : m.1 x0 = some (.inr 8) ∧ x0 ≠ 0)
    (h : (((((1 : Int32) <<< ((iF m x0 6) &&& 31)) ≤ x4) → (((¬ x2 = ((-1))) → (Q (some (.int ((-1)))) m)) ∧ (¬ (¬ x2 = ((-1))) → (Q (some (.int x3)) m)))) ∧ (¬ (((1 : Int32) <<< ((iF m x0 6) &&& 31)) ≤ x4) → (mEv d 215 [.ref x0, .int x4] m (fun r m' => mEs d 211 b g211 (56, [some (.ref x0), some (.int x1), some (.int x2), some (.int x3), some (.int x4)], r.toList ++ [], m') Q))))) :
    mEs d 211 b g211 (39, [some (.ref x0), some (.int x1), some (.int x2), some (.int x3), some (.int x4)], [], m) Q := by
  refine e_iload (pc' := 41) (dAt D211 24 rfl) rfl rfl ?_
  refine e_iconst (pc' := 42) (v := 1) (dAt D211 25 rfl) rfl (by decide) ?_
  refine e_aload_n (pc' := 43) (dAt D211 26 rfl) rfl rfl ?_
  refine e_getfield (pc' := 46) (dAt D211 27 rfl) rfl rfl hOx0 (hT.int hOx0 6 (by decide)) ?_
  refine e_ishl (pc' := 47) (dAt D211 28 rfl) rfl ?_
  refine e_icmp_ge (t := 76) (pc' := 50) (dAt D211 29 rfl) ⟨by decide, by decide⟩ rfl (fun c => ?_) (fun c => ?_)
  · replace h := h.1 c
    refine e_iload_n (pc' := 77) (dAt D211 42 rfl) rfl rfl ?_
    refine e_iconst (pc' := 78) (v := (-1)) (dAt D211 43 rfl) rfl (by decide) ?_
    refine e_icmp_ne (t := 85) (pc' := 81) (dAt D211 44 rfl) ⟨by decide, by decide⟩ rfl (fun c => ?_) (fun c => ?_)
    · replace h := h.1 c
      refine e_iconst (pc' := 86) (v := (-1)) (dAt D211 47 rfl) rfl (by decide) ?_
      exact e_ireturn (dAt D211 48 rfl) rfl ⟨rfl, fun e => by cases e⟩ h
    · replace h := h.2 c
      refine e_iload_n (pc' := 82) (dAt D211 45 rfl) rfl rfl ?_
      refine e_goto (t := 86) (dAt D211 46 rfl) ⟨by decide, by decide⟩ ?_
      exact e_ireturn (dAt D211 48 rfl) rfl ⟨rfl, fun e => by cases e⟩ h
  · replace h := h.2 c
    refine e_aload_n (pc' := 51) (dAt D211 30 rfl) rfl rfl ?_
    refine e_iload (pc' := 53) (dAt D211 31 rfl) rfl rfl ?_
    exact e_call2 h (dAt D211 32 rfl) (hi0 rfl) rfl G215 (by decide) rfl (Nat.le_of_ble_eq_true rfl) (kV hOx0 rfl rfl) rfl rfl
-- PlaceNetsModel.least.(II)I, from 56
set_option maxRecDepth 20000 in
theorem bk211_56 {d b : Nat} {Q : Option Value → mMem → Prop} {m : mMem} {x0 : Nat} {x1 : Int32} {x2 : Int32} {x3 : Int32} {x4 : Int32} {y0 : Int32} (hT : mWT m) (hOx0 : m.1 x0 = some (.inr 8) ∧ x0 ≠ 0)
    (h : (((y0 = 0) → (∀ (v_1 : Int32), v_1 = (x4 + 1) → mEs d 211 b g211 (39, [some (.ref x0), some (.int x1), some (.int x2), some (.int x3), some (.int v_1)], [], m) Q)) ∧ (¬ (y0 = 0) → (((¬ x3 = x2) → (∀ (v_2 : Int32), v_2 = (x3 + 1) → ∀ (v_3 : Int32), v_3 = (x4 + 1) → mEs d 211 b g211 (39, [some (.ref x0), some (.int x1), some (.int x2), some (.int v_2), some (.int v_3)], [], m) Q)) ∧ (¬ (¬ x3 = x2) → (Q (some (.int x4)) m)))))) :
    mEs d 211 b g211 (56, [some (.ref x0), some (.int x1), some (.int x2), some (.int x3), some (.int x4)], [.int y0], m) Q := by
  refine e_if_eq (t := 70) (pc' := 59) (dAt D211 33 rfl) ⟨by decide, by decide⟩ rfl (fun c => ?_) (fun c => ?_)
  · replace h := h.1 c
    replace h := h _ rfl
    refine e_iinc (pc' := 73) (dAt D211 40 rfl) rfl rfl (Nat.le_of_ble_eq_true rfl) (congrArg (_ + ·) (show Int32.ofInt (1) = (1 : Int32) by decide)) rfl ?_
    refine e_goto (t := 39) (dAt D211 41 rfl) ⟨by decide, by decide⟩ ?_
    exact h
  · replace h := h.2 c
    refine e_iload_n (pc' := 60) (dAt D211 34 rfl) rfl rfl ?_
    refine e_iload_n (pc' := 61) (dAt D211 35 rfl) rfl rfl ?_
    refine e_icmp_ne (t := 67) (pc' := 64) (dAt D211 36 rfl) ⟨by decide, by decide⟩ rfl (fun c => ?_) (fun c => ?_)
    · replace h := h.1 c
      replace h := h _ rfl
      refine e_iinc (pc' := 70) (dAt D211 39 rfl) rfl rfl (Nat.le_of_ble_eq_true rfl) (congrArg (_ + ·) (show Int32.ofInt (1) = (1 : Int32) by decide)) rfl ?_
      replace h := h _ rfl
      refine e_iinc (pc' := 73) (dAt D211 40 rfl) rfl rfl (Nat.le_of_ble_eq_true rfl) (congrArg (_ + ·) (show Int32.ofInt (1) = (1 : Int32) by decide)) rfl ?_
      refine e_goto (t := 39) (dAt D211 41 rfl) ⟨by decide, by decide⟩ ?_
      exact h
    · replace h := h.2 c
      refine e_iload (pc' := 66) (dAt D211 37 rfl) rfl rfl ?_
      exact e_ireturn (dAt D211 38 rfl) rfl ⟨rfl, fun e => by cases e⟩ h
-- PlaceNetsModel.laySiphons.(I)V, from 0
set_option maxRecDepth 20000 in
theorem bk212_0 {d b : Nat} {Q : Option Value → mMem → Prop} {m : mMem} {x0 : Nat} {x1 : Int32} {x2 : Option Value} (hT : mWT m) (hOx0 : m.1 x0 = some (.inr 8) ∧ x0 ≠ 0)
    (h : mEs d 212 b g212 (2, [some (.ref x0), some (.int x1), some (.int 0)], [], m) Q) :
    mEs d 212 b g212 (0, [some (.ref x0), some (.int x1), x2], [], m) Q := by
  refine e_iconst (pc' := 1) (v := 0) (dAt D212 0 rfl) rfl (by decide) ?_
  refine e_istore_n (pc' := 2) (dAt D212 1 rfl) rfl (Nat.le_of_ble_eq_true rfl) rfl ?_
  exact h
-- PlaceNetsModel.laySiphons.(I)V, from 2
set_option maxRecDepth 20000 in
theorem bk212_2 {d b : Nat} {Q : Option Value → mMem → Prop} {m : mMem} {x0 : Nat} {x1 : Int32} {x2 : Int32} (hT : mWT m) (hOx0 : m.1 x0 = some (.inr 8) ∧ x0 ≠ 0)
    (h : (((((1 : Int32) <<< ((iF m x0 6) &&& 31)) ≤ x2) → (Q none m)) ∧ (¬ (((1 : Int32) <<< ((iF m x0 6) &&& 31)) ≤ x2) → (mEv d 213 [.ref x0, .int x1, .int x2] m (fun r m' => mEs d 212 b g212 (23, [some (.ref x0), some (.int x1), some (.int x2)], r.toList ++ [.int x2, .ref (64 * x0 + 27)], m') Q))))) :
    mEs d 212 b g212 (2, [some (.ref x0), some (.int x1), some (.int x2)], [], m) Q := by
  refine e_iload_n (pc' := 3) (dAt D212 2 rfl) rfl rfl ?_
  refine e_iconst (pc' := 4) (v := 1) (dAt D212 3 rfl) rfl (by decide) ?_
  refine e_aload_n (pc' := 5) (dAt D212 4 rfl) rfl rfl ?_
  refine e_getfield (pc' := 8) (dAt D212 5 rfl) rfl rfl hOx0 (hT.int hOx0 6 (by decide)) ?_
  refine e_ishl (pc' := 9) (dAt D212 6 rfl) rfl ?_
  refine e_icmp_ge (t := 30) (pc' := 12) (dAt D212 7 rfl) ⟨by decide, by decide⟩ rfl (fun c => ?_) (fun c => ?_)
  · replace h := h.1 c
    exact e_return (dAt D212 18 rfl) rfl h
  · replace h := h.2 c
    refine e_aload_n (pc' := 13) (dAt D212 8 rfl) rfl rfl ?_
    refine e_getfield (pc' := 16) (dAt D212 9 rfl) rfl rfl hOx0 (hT.own hOx0 26 rfl) ?_
    refine e_iload_n (pc' := 17) (dAt D212 10 rfl) rfl rfl ?_
    refine e_aload_n (pc' := 18) (dAt D212 11 rfl) rfl rfl ?_
    refine e_iload_n (pc' := 19) (dAt D212 12 rfl) rfl rfl ?_
    refine e_iload_n (pc' := 20) (dAt D212 13 rfl) rfl rfl ?_
    exact e_call2 h (dAt D212 14 rfl) (hi0 rfl) rfl G213 (by decide) rfl (Nat.le_of_ble_eq_true rfl) (kV hOx0 rfl rfl) rfl rfl
-- PlaceNetsModel.laySiphons.(I)V, from 23
set_option maxRecDepth 20000 in
theorem bk212_23 {d b : Nat} {Q : Option Value → mMem → Prop} {m : mMem} {x0 : Nat} {x1 : Int32} {x2 : Int32} {y0 : Nat} {ly0 : Nat} {y1 : Int32} {y2 : Int32} (hT : mWT m) (hOx0 : m.1 x0 = some (.inr 8) ∧ x0 ≠ 0) (hAy0 : m.1 y0 = some (.inl (.boolean, ly0)) ∧ y0 ≠ 0)
    (h : (mIn y1 ly0 = true) ∧ ((y2 = 0 ∨ y2 = 1) ∧ (∀ (m_1 : mMem), m_1 = (mSetI m y0 (upd (m.2.2.1 y0) y1.toNatClampNeg y2)) → ∀ (v_3 : Int32), v_3 = (x2 + 1) → mEs d 212 b g212 (2, [some (.ref x0), some (.int x1), some (.int v_3)], [], m_1) Q))) :
    mEs d 212 b g212 (23, [some (.ref x0), some (.int x1), some (.int x2)], [.int y2, .int y1, .ref y0], m) Q := by
  obtain ⟨f1, h⟩ := h
  obtain ⟨f9, h⟩ := h
  replace h := h _ rfl
  refine e_zastore (pc' := 24) (dAt D212 15 rfl) rfl hAy0.1 hAy0.2 f1 (vz01 f9) ?_
  refine wtI hT (fun hT_2 => ?_)
  replace h := h _ rfl
  refine e_iinc (pc' := 27) (dAt D212 16 rfl) rfl rfl (Nat.le_of_ble_eq_true rfl) (congrArg (_ + ·) (show Int32.ofInt (1) = (1 : Int32) by decide)) rfl ?_
  refine e_goto (t := 2) (dAt D212 17 rfl) ⟨by decide, by decide⟩ ?_
  exact h
-- PlaceNetsModel.isSiphon.(II)Z, from 0
set_option maxRecDepth 20000 in
theorem bk213_0 {d b : Nat} {Q : Option Value → mMem → Prop} {m : mMem} {x0 : Nat} {x1 : Int32} {x2 : Int32} {x3 : Option Value} {x4 : Option Value} {x5 : Option Value} {x6 : Option Value} (hT : mWT m) (hOx0 : m.1 x0 = some (.inr 8) ∧ x0 ≠ 0)
    (h : (((x2 = 0) → (mEs d 213 b g213 (13, [some (.ref x0), some (.int x1), some (.int x2), some (.int 0), some (.int 0), x5, x6], [], m) Q)) ∧ (¬ (x2 = 0) → (mEs d 213 b g213 (13, [some (.ref x0), some (.int x1), some (.int x2), some (.int 1), some (.int 0), x5, x6], [], m) Q)))) :
    mEs d 213 b g213 (0, [some (.ref x0), some (.int x1), some (.int x2), x3, x4, x5, x6], [], m) Q := by
  refine e_iload_n (pc' := 1) (dAt D213 0 rfl) rfl rfl ?_
  refine e_if_eq (t := 8) (pc' := 4) (dAt D213 1 rfl) ⟨by decide, by decide⟩ rfl (fun c => ?_) (fun c => ?_)
  · replace h := h.1 c
    refine e_iconst (pc' := 9) (v := 0) (dAt D213 4 rfl) rfl (by decide) ?_
    refine e_istore_n (pc' := 10) (dAt D213 5 rfl) rfl (Nat.le_of_ble_eq_true rfl) rfl ?_
    refine e_iconst (pc' := 11) (v := 0) (dAt D213 6 rfl) rfl (by decide) ?_
    refine e_istore (pc' := 13) (dAt D213 7 rfl) rfl (Nat.le_of_ble_eq_true rfl) rfl ?_
    exact h
  · replace h := h.2 c
    refine e_iconst (pc' := 5) (v := 1) (dAt D213 2 rfl) rfl (by decide) ?_
    refine e_goto (t := 9) (dAt D213 3 rfl) ⟨by decide, by decide⟩ ?_
    refine e_istore_n (pc' := 10) (dAt D213 5 rfl) rfl (Nat.le_of_ble_eq_true rfl) rfl ?_
    refine e_iconst (pc' := 11) (v := 0) (dAt D213 6 rfl) rfl (by decide) ?_
    refine e_istore (pc' := 13) (dAt D213 7 rfl) rfl (Nat.le_of_ble_eq_true rfl) rfl ?_
    exact h
-- PlaceNetsModel.isSiphon.(II)Z, from 13
set_option maxRecDepth 20000 in
theorem bk213_13 {d b : Nat} {Q : Option Value → mMem → Prop} {m : mMem} {x0 : Nat} {x1 : Int32} {x2 : Int32} {x3 : Int32} {x4 : Int32} {x5 : Option Value} {x6 : Option Value} (hT : mWT m) (hOx0 : m.1 x0 = some (.inr 8) ∧ x0 ≠ 0)
    (h : ((((iF m x0 7) ≤ x4) → ((x3 = 0 ∨ x3 = 1) ∧ (Q (some (.int x3)) m))) ∧ (¬ ((iF m x0 7) ≤ x4) → (mEv d 214 [.ref x0, .ref (64 * x0 + 2), .int x4] m (fun r m' => mEs d 213 b g213 (32, [some (.ref x0), some (.int x1), some (.int x2), some (.int x3), some (.int x4), x5, x6], r.toList ++ [], m') Q))))) :
    mEs d 213 b g213 (13, [some (.ref x0), some (.int x1), some (.int x2), some (.int x3), some (.int x4), x5, x6], [], m) Q := by
  refine e_iload (pc' := 15) (dAt D213 8 rfl) rfl rfl ?_
  refine e_aload_n (pc' := 16) (dAt D213 9 rfl) rfl rfl ?_
  refine e_getfield (pc' := 19) (dAt D213 10 rfl) rfl rfl hOx0 (hT.int hOx0 7 (by decide)) ?_
  refine e_icmp_ge (t := 93) (pc' := 22) (dAt D213 11 rfl) ⟨by decide, by decide⟩ rfl (fun c => ?_) (fun c => ?_)
  · replace h := h.1 c
    refine e_iload_n (pc' := 94) (dAt D213 47 rfl) rfl rfl ?_
    obtain ⟨f1, h⟩ := h
    exact e_ireturn (dAt D213 48 rfl) rfl ⟨nb01 f1, fun e => by cases e⟩ h
  · replace h := h.2 c
    refine e_aload_n (pc' := 23) (dAt D213 12 rfl) rfl rfl ?_
    refine e_aload_n (pc' := 24) (dAt D213 13 rfl) rfl rfl ?_
    refine e_getfield (pc' := 27) (dAt D213 14 rfl) rfl rfl hOx0 (hT.own hOx0 1 rfl) ?_
    refine e_iload (pc' := 29) (dAt D213 15 rfl) rfl rfl ?_
    exact e_call2 h (dAt D213 16 rfl) (hi0 rfl) rfl G214 (by decide) rfl (Nat.le_of_ble_eq_true rfl) (kV hOx0 rfl rfl) rfl rfl
-- PlaceNetsModel.isSiphon.(II)Z, from 32
set_option maxRecDepth 20000 in
theorem bk213_32 {d b : Nat} {Q : Option Value → mMem → Prop} {m : mMem} {x0 : Nat} {x1 : Int32} {x2 : Int32} {x3 : Int32} {x4 : Int32} {x5 : Option Value} {x6 : Option Value} {y0 : Int32} (hT : mWT m) (hOx0 : m.1 x0 = some (.inr 8) ∧ x0 ≠ 0)
    (h : ∀ (v_1 : Int32), v_1 = (y0 &&& x2) → mEv d 214 [.ref x0, .ref (64 * x0 + 3), .int x4] m (fun r m' => mEs d 213 b g213 (46, [some (.ref x0), some (.int x1), some (.int x2), some (.int x3), some (.int x4), some (.int v_1), x6], r.toList ++ [], m') Q)) :
    mEs d 213 b g213 (32, [some (.ref x0), some (.int x1), some (.int x2), some (.int x3), some (.int x4), x5, x6], [.int y0], m) Q := by
  refine e_iload_n (pc' := 33) (dAt D213 17 rfl) rfl rfl ?_
  refine e_iand (pc' := 34) (dAt D213 18 rfl) rfl ?_
  replace h := h _ rfl
  refine e_istore (pc' := 36) (dAt D213 19 rfl) rfl (Nat.le_of_ble_eq_true rfl) rfl ?_
  refine e_aload_n (pc' := 37) (dAt D213 20 rfl) rfl rfl ?_
  refine e_aload_n (pc' := 38) (dAt D213 21 rfl) rfl rfl ?_
  refine e_getfield (pc' := 41) (dAt D213 22 rfl) rfl rfl hOx0 (hT.own hOx0 2 rfl) ?_
  refine e_iload (pc' := 43) (dAt D213 23 rfl) rfl rfl ?_
  exact e_call2 h (dAt D213 24 rfl) (hi0 rfl) rfl G214 (by decide) rfl (Nat.le_of_ble_eq_true rfl) (kV hOx0 rfl rfl) rfl rfl
-- PlaceNetsModel.isSiphon.(II)Z, from 46
set_option maxRecDepth 20000 in
theorem bk213_46 {d b : Nat} {Q : Option Value → mMem → Prop} {m : mMem} {x0 : Nat} {x1 : Int32} {x2 : Int32} {x3 : Int32} {x4 : Int32} {x5 : Int32} {x6 : Option Value} {y0 : Int32} (hT : mWT m) (hOx0 : m.1 x0 = some (.inr 8) ∧ x0 ≠ 0)
    (h : ∀ (v_1 : Int32), v_1 = (y0 &&& x2) → (((x3 = 0) → (∀ (v_2 : Int32), v_2 = (x4 + 1) → mEs d 213 b g213 (13, [some (.ref x0), some (.int x1), some (.int x2), some (.int 0), some (.int v_2), some (.int x5), some (.int v_1)], [], m) Q)) ∧ (¬ (x3 = 0) → (((¬ x1 = 0) → (((x5 = 0) → (∀ (v_3 : Int32), v_3 = (x4 + 1) → mEs d 213 b g213 (13, [some (.ref x0), some (.int x1), some (.int x2), some (.int 1), some (.int v_3), some (.int x5), some (.int v_1)], [], m) Q)) ∧ (¬ (x5 = 0) → (((v_1 = 0) → (∀ (v_4 : Int32), v_4 = (x4 + 1) → mEs d 213 b g213 (13, [some (.ref x0), some (.int x1), some (.int x2), some (.int 0), some (.int v_4), some (.int x5), some (.int v_1)], [], m) Q)) ∧ (¬ (v_1 = 0) → (∀ (v_5 : Int32), v_5 = (x4 + 1) → mEs d 213 b g213 (13, [some (.ref x0), some (.int x1), some (.int x2), some (.int 1), some (.int v_5), some (.int x5), some (.int v_1)], [], m) Q)))))) ∧ (¬ (¬ x1 = 0) → (((v_1 = 0) → (∀ (v_6 : Int32), v_6 = (x4 + 1) → mEs d 213 b g213 (13, [some (.ref x0), some (.int x1), some (.int x2), some (.int 1), some (.int v_6), some (.int x5), some (.int v_1)], [], m) Q)) ∧ (¬ (v_1 = 0) → (((x5 = 0) → (∀ (v_7 : Int32), v_7 = (x4 + 1) → mEs d 213 b g213 (13, [some (.ref x0), some (.int x1), some (.int x2), some (.int 0), some (.int v_7), some (.int x5), some (.int v_1)], [], m) Q)) ∧ (¬ (x5 = 0) → (∀ (v_8 : Int32), v_8 = (x4 + 1) → mEs d 213 b g213 (13, [some (.ref x0), some (.int x1), some (.int x2), some (.int 1), some (.int v_8), some (.int x5), some (.int v_1)], [], m) Q)))))))))) :
    mEs d 213 b g213 (46, [some (.ref x0), some (.int x1), some (.int x2), some (.int x3), some (.int x4), some (.int x5), x6], [.int y0], m) Q := by
  refine e_iload_n (pc' := 47) (dAt D213 25 rfl) rfl rfl ?_
  refine e_iand (pc' := 48) (dAt D213 26 rfl) rfl ?_
  replace h := h _ rfl
  refine e_istore (pc' := 50) (dAt D213 27 rfl) rfl (Nat.le_of_ble_eq_true rfl) rfl ?_
  refine e_iload_n (pc' := 51) (dAt D213 28 rfl) rfl rfl ?_
  refine e_if_eq (t := 85) (pc' := 54) (dAt D213 29 rfl) ⟨by decide, by decide⟩ rfl (fun c => ?_) (fun c => ?_)
  · replace h := h.1 c
    refine e_iconst (pc' := 86) (v := 0) (dAt D213 43 rfl) rfl (by decide) ?_
    refine e_istore_n (pc' := 87) (dAt D213 44 rfl) rfl (Nat.le_of_ble_eq_true rfl) rfl ?_
    replace h := h _ rfl
    refine e_iinc (pc' := 90) (dAt D213 45 rfl) rfl rfl (Nat.le_of_ble_eq_true rfl) (congrArg (_ + ·) (show Int32.ofInt (1) = (1 : Int32) by decide)) rfl ?_
    refine e_goto (t := 13) (dAt D213 46 rfl) ⟨by decide, by decide⟩ ?_
    exact h
  · replace h := h.2 c
    refine e_iload_n (pc' := 55) (dAt D213 30 rfl) rfl rfl ?_
    refine e_if_ne (t := 71) (pc' := 58) (dAt D213 31 rfl) ⟨by decide, by decide⟩ rfl (fun c => ?_) (fun c => ?_)
    · replace h := h.1 c
      refine e_iload (pc' := 73) (dAt D213 37 rfl) rfl rfl ?_
      refine e_if_eq (t := 81) (pc' := 76) (dAt D213 38 rfl) ⟨by decide, by decide⟩ rfl (fun c => ?_) (fun c => ?_)
      · replace h := h.1 c
        refine e_iconst (pc' := 82) (v := 1) (dAt D213 41 rfl) rfl (by decide) ?_
        refine e_goto (t := 86) (dAt D213 42 rfl) ⟨by decide, by decide⟩ ?_
        refine e_istore_n (pc' := 87) (dAt D213 44 rfl) rfl (Nat.le_of_ble_eq_true rfl) rfl ?_
        replace h := h _ rfl
        refine e_iinc (pc' := 90) (dAt D213 45 rfl) rfl rfl (Nat.le_of_ble_eq_true rfl) (congrArg (_ + ·) (show Int32.ofInt (1) = (1 : Int32) by decide)) rfl ?_
        refine e_goto (t := 13) (dAt D213 46 rfl) ⟨by decide, by decide⟩ ?_
        exact h
      · replace h := h.2 c
        refine e_iload (pc' := 78) (dAt D213 39 rfl) rfl rfl ?_
        refine e_if_eq (t := 85) (pc' := 81) (dAt D213 40 rfl) ⟨by decide, by decide⟩ rfl (fun c => ?_) (fun c => ?_)
        · replace h := h.1 c
          refine e_iconst (pc' := 86) (v := 0) (dAt D213 43 rfl) rfl (by decide) ?_
          refine e_istore_n (pc' := 87) (dAt D213 44 rfl) rfl (Nat.le_of_ble_eq_true rfl) rfl ?_
          replace h := h _ rfl
          refine e_iinc (pc' := 90) (dAt D213 45 rfl) rfl rfl (Nat.le_of_ble_eq_true rfl) (congrArg (_ + ·) (show Int32.ofInt (1) = (1 : Int32) by decide)) rfl ?_
          refine e_goto (t := 13) (dAt D213 46 rfl) ⟨by decide, by decide⟩ ?_
          exact h
        · replace h := h.2 c
          refine e_iconst (pc' := 82) (v := 1) (dAt D213 41 rfl) rfl (by decide) ?_
          refine e_goto (t := 86) (dAt D213 42 rfl) ⟨by decide, by decide⟩ ?_
          refine e_istore_n (pc' := 87) (dAt D213 44 rfl) rfl (Nat.le_of_ble_eq_true rfl) rfl ?_
          replace h := h _ rfl
          refine e_iinc (pc' := 90) (dAt D213 45 rfl) rfl rfl (Nat.le_of_ble_eq_true rfl) (congrArg (_ + ·) (show Int32.ofInt (1) = (1 : Int32) by decide)) rfl ?_
          refine e_goto (t := 13) (dAt D213 46 rfl) ⟨by decide, by decide⟩ ?_
          exact h
    · replace h := h.2 c
      refine e_iload (pc' := 60) (dAt D213 32 rfl) rfl rfl ?_
      refine e_if_eq (t := 81) (pc' := 63) (dAt D213 33 rfl) ⟨by decide, by decide⟩ rfl (fun c => ?_) (fun c => ?_)
      · replace h := h.1 c
        refine e_iconst (pc' := 82) (v := 1) (dAt D213 41 rfl) rfl (by decide) ?_
        refine e_goto (t := 86) (dAt D213 42 rfl) ⟨by decide, by decide⟩ ?_
        refine e_istore_n (pc' := 87) (dAt D213 44 rfl) rfl (Nat.le_of_ble_eq_true rfl) rfl ?_
        replace h := h _ rfl
        refine e_iinc (pc' := 90) (dAt D213 45 rfl) rfl rfl (Nat.le_of_ble_eq_true rfl) (congrArg (_ + ·) (show Int32.ofInt (1) = (1 : Int32) by decide)) rfl ?_
        refine e_goto (t := 13) (dAt D213 46 rfl) ⟨by decide, by decide⟩ ?_
        exact h
      · replace h := h.2 c
        refine e_iload (pc' := 65) (dAt D213 34 rfl) rfl rfl ?_
        refine e_if_eq (t := 85) (pc' := 68) (dAt D213 35 rfl) ⟨by decide, by decide⟩ rfl (fun c => ?_) (fun c => ?_)
        · replace h := h.1 c
          refine e_iconst (pc' := 86) (v := 0) (dAt D213 43 rfl) rfl (by decide) ?_
          refine e_istore_n (pc' := 87) (dAt D213 44 rfl) rfl (Nat.le_of_ble_eq_true rfl) rfl ?_
          replace h := h _ rfl
          refine e_iinc (pc' := 90) (dAt D213 45 rfl) rfl rfl (Nat.le_of_ble_eq_true rfl) (congrArg (_ + ·) (show Int32.ofInt (1) = (1 : Int32) by decide)) rfl ?_
          refine e_goto (t := 13) (dAt D213 46 rfl) ⟨by decide, by decide⟩ ?_
          exact h
        · replace h := h.2 c
          refine e_goto (t := 81) (dAt D213 36 rfl) ⟨by decide, by decide⟩ ?_
          refine e_iconst (pc' := 82) (v := 1) (dAt D213 41 rfl) rfl (by decide) ?_
          refine e_goto (t := 86) (dAt D213 42 rfl) ⟨by decide, by decide⟩ ?_
          refine e_istore_n (pc' := 87) (dAt D213 44 rfl) rfl (Nat.le_of_ble_eq_true rfl) rfl ?_
          replace h := h _ rfl
          refine e_iinc (pc' := 90) (dAt D213 45 rfl) rfl rfl (Nat.le_of_ble_eq_true rfl) (congrArg (_ + ·) (show Int32.ofInt (1) = (1 : Int32) by decide)) rfl ?_
          refine e_goto (t := 13) (dAt D213 46 rfl) ⟨by decide, by decide⟩ ?_
          exact h
-- PlaceNetsModel.setOf.([II)I, from 0
set_option maxRecDepth 20000 in
theorem bk214_0 {d b : Nat} {Q : Option Value → mMem → Prop} {m : mMem} {x0 : Nat} {x1 : Nat} {lx1 : Nat} {x2 : Int32} {x3 : Option Value} {x4 : Option Value} (hT : mWT m) (hOx0 : m.1 x0 = some (.inr 8) ∧ x0 ≠ 0) (hAx1 : m.1 x1 = some (.inl (.int, lx1)) ∧ x1 ≠ 0)
    (h : mEs d 214 b g214 (5, [some (.ref x0), some (.ref x1), some (.int x2), some (.int 0), some (.int 0)], [], m) Q) :
    mEs d 214 b g214 (0, [some (.ref x0), some (.ref x1), some (.int x2), x3, x4], [], m) Q := by
  refine e_iconst (pc' := 1) (v := 0) (dAt D214 0 rfl) rfl (by decide) ?_
  refine e_istore_n (pc' := 2) (dAt D214 1 rfl) rfl (Nat.le_of_ble_eq_true rfl) rfl ?_
  refine e_iconst (pc' := 3) (v := 0) (dAt D214 2 rfl) rfl (by decide) ?_
  refine e_istore (pc' := 5) (dAt D214 3 rfl) rfl (Nat.le_of_ble_eq_true rfl) rfl ?_
  exact h
-- PlaceNetsModel.setOf.([II)I, from 5
set_option maxRecDepth 20000 in
theorem bk214_5 {d b : Nat} {Q : Option Value → mMem → Prop} {m : mMem} {x0 : Nat} {x1 : Nat} {lx1 : Nat} {x2 : Int32} {x3 : Int32} {x4 : Int32} (hT : mWT m) (hOx0 : m.1 x0 = some (.inr 8) ∧ x0 ≠ 0) (hAx1 : m.1 x1 = some (.inl (.int, lx1)) ∧ x1 ≠ 0)
    (h : ((((iF m x0 6) ≤ x4) → (Q (some (.int x3)) m)) ∧ (¬ ((iF m x0 6) ≤ x4) → ((mIn ((10 * x2) + x4) lx1 = true) ∧ ((((m.2.2.1 x1 ((10 * x2) + x4).toNatClampNeg) ≤ 0) → (∀ (v_1 : Int32), v_1 = (x3 ||| 0) → ∀ (v_2 : Int32), v_2 = (x4 + 1) → mEs d 214 b g214 (5, [some (.ref x0), some (.ref x1), some (.int x2), some (.int v_1), some (.int v_2)], [], m) Q)) ∧ (¬ ((m.2.2.1 x1 ((10 * x2) + x4).toNatClampNeg) ≤ 0) → (∀ (v_3 : Int32), v_3 = (x3 ||| ((1 : Int32) <<< (x4 &&& 31))) → ∀ (v_4 : Int32), v_4 = (x4 + 1) → mEs d 214 b g214 (5, [some (.ref x0), some (.ref x1), some (.int x2), some (.int v_3), some (.int v_4)], [], m) Q))))))) :
    mEs d 214 b g214 (5, [some (.ref x0), some (.ref x1), some (.int x2), some (.int x3), some (.int x4)], [], m) Q := by
  refine e_iload (pc' := 7) (dAt D214 4 rfl) rfl rfl ?_
  refine e_aload_n (pc' := 8) (dAt D214 5 rfl) rfl rfl ?_
  refine e_getfield (pc' := 11) (dAt D214 6 rfl) rfl rfl hOx0 (hT.int hOx0 6 (by decide)) ?_
  refine e_icmp_ge (t := 43) (pc' := 14) (dAt D214 7 rfl) ⟨by decide, by decide⟩ rfl (fun c => ?_) (fun c => ?_)
  · replace h := h.1 c
    refine e_iload_n (pc' := 44) (dAt D214 26 rfl) rfl rfl ?_
    exact e_ireturn (dAt D214 27 rfl) rfl ⟨rfl, fun e => by cases e⟩ h
  · replace h := h.2 c
    refine e_iload_n (pc' := 15) (dAt D214 8 rfl) rfl rfl ?_
    refine e_aload_n (pc' := 16) (dAt D214 9 rfl) rfl rfl ?_
    refine e_bipush (pc' := 18) (v := 10) (dAt D214 10 rfl) rfl (by decide) ?_
    refine e_iload_n (pc' := 19) (dAt D214 11 rfl) rfl rfl ?_
    refine e_imul (pc' := 20) (dAt D214 12 rfl) rfl ?_
    refine e_iload (pc' := 22) (dAt D214 13 rfl) rfl rfl ?_
    refine e_iadd (pc' := 23) (dAt D214 14 rfl) rfl ?_
    obtain ⟨f1, h⟩ := h
    refine e_iaload (pc' := 24) (dAt D214 15 rfl) rfl hAx1.1 (Or.inl hAx1.2) f1 rfl ?_
    refine e_if_le (t := 34) (pc' := 27) (dAt D214 16 rfl) ⟨by decide, by decide⟩ rfl (fun c => ?_) (fun c => ?_)
    · replace h := h.1 c
      refine e_iconst (pc' := 35) (v := 0) (dAt D214 21 rfl) rfl (by decide) ?_
      refine e_ior (pc' := 36) (dAt D214 22 rfl) rfl ?_
      replace h := h _ rfl
      refine e_istore_n (pc' := 37) (dAt D214 23 rfl) rfl (Nat.le_of_ble_eq_true rfl) rfl ?_
      replace h := h _ rfl
      refine e_iinc (pc' := 40) (dAt D214 24 rfl) rfl rfl (Nat.le_of_ble_eq_true rfl) (congrArg (_ + ·) (show Int32.ofInt (1) = (1 : Int32) by decide)) rfl ?_
      refine e_goto (t := 5) (dAt D214 25 rfl) ⟨by decide, by decide⟩ ?_
      exact h
    · replace h := h.2 c
      refine e_iconst (pc' := 28) (v := 1) (dAt D214 17 rfl) rfl (by decide) ?_
      refine e_iload (pc' := 30) (dAt D214 18 rfl) rfl rfl ?_
      refine e_ishl (pc' := 31) (dAt D214 19 rfl) rfl ?_
      refine e_goto (t := 35) (dAt D214 20 rfl) ⟨by decide, by decide⟩ ?_
      refine e_ior (pc' := 36) (dAt D214 22 rfl) rfl ?_
      replace h := h _ rfl
      refine e_istore_n (pc' := 37) (dAt D214 23 rfl) rfl (Nat.le_of_ble_eq_true rfl) rfl ?_
      replace h := h _ rfl
      refine e_iinc (pc' := 40) (dAt D214 24 rfl) rfl rfl (Nat.le_of_ble_eq_true rfl) (congrArg (_ + ·) (show Int32.ofInt (1) = (1 : Int32) by decide)) rfl ?_
      refine e_goto (t := 5) (dAt D214 25 rfl) ⟨by decide, by decide⟩ ?_
      exact h
-- PlaceNetsModel.isLeast.(I)Z, from 0
set_option maxRecDepth 20000 in
theorem bk215_0 {d b : Nat} {Q : Option Value → mMem → Prop} {m : mMem} {x0 : Nat} {x1 : Int32} {x2 : Option Value} {x3 : Option Value} (hT : mWT m) (hOx0 : m.1 x0 = some (.inr 8) ∧ x0 ≠ 0)
    (h : (mIn x1 1024 = true) ∧ (∀ (v_1 : Int32), v_1 = (m.2.2.1 (64 * x0 + 27) x1.toNatClampNeg) → ∀ (v_2 : Int32), v_2 = ((x1 - 1) &&& x1) → mEs d 215 b g215 (13, [some (.ref x0), some (.int x1), some (.int v_1), some (.int v_2)], [], m) Q)) :
    mEs d 215 b g215 (0, [some (.ref x0), some (.int x1), x2, x3], [], m) Q := by
  refine e_aload_n (pc' := 1) (dAt D215 0 rfl) rfl rfl ?_
  refine e_getfield (pc' := 4) (dAt D215 1 rfl) rfl rfl hOx0 (hT.own hOx0 26 rfl) ?_
  refine e_iload_n (pc' := 5) (dAt D215 2 rfl) rfl rfl ?_
  obtain ⟨f1, h⟩ := h
  refine e_zaload (pc' := 6) (dAt D215 3 rfl) rfl (hT.arr hOx0 26 rfl (by decide)).1 (Or.inl (hT.arr hOx0 26 rfl (by decide)).2) f1 rfl ?_
  replace h := h _ rfl
  refine e_istore_n (pc' := 7) (dAt D215 4 rfl) rfl (Nat.le_of_ble_eq_true rfl) rfl ?_
  refine e_iload_n (pc' := 8) (dAt D215 5 rfl) rfl rfl ?_
  refine e_iconst (pc' := 9) (v := 1) (dAt D215 6 rfl) rfl (by decide) ?_
  refine e_isub (pc' := 10) (dAt D215 7 rfl) rfl ?_
  refine e_iload_n (pc' := 11) (dAt D215 8 rfl) rfl rfl ?_
  refine e_iand (pc' := 12) (dAt D215 9 rfl) rfl ?_
  replace h := h _ rfl
  refine e_istore_n (pc' := 13) (dAt D215 10 rfl) rfl (Nat.le_of_ble_eq_true rfl) rfl ?_
  exact h
-- PlaceNetsModel.isLeast.(I)Z, from 13
set_option maxRecDepth 20000 in
theorem bk215_13 {d b : Nat} {Q : Option Value → mMem → Prop} {m : mMem} {x0 : Nat} {x1 : Int32} {x2 : Int32} {x3 : Int32} (hT : mWT m) (hOx0 : m.1 x0 = some (.inr 8) ∧ x0 ≠ 0)
    (h : (((x3 ≤ 0) → ((x2 = 0 ∨ x2 = 1) ∧ (Q (some (.int x2)) m))) ∧ (¬ (x3 ≤ 0) → (((x2 = 0) → ((x2 = 0 ∨ x2 = 1) ∧ (Q (some (.int x2)) m))) ∧ (¬ (x2 = 0) → ((mIn x3 1024 = true) ∧ (((¬ (m.2.2.1 (64 * x0 + 27) x3.toNatClampNeg) = 0) → (∀ (v_1 : Int32), v_1 = ((x3 - 1) &&& x1) → mEs d 215 b g215 (13, [some (.ref x0), some (.int x1), some (.int 0), some (.int v_1)], [], m) Q)) ∧ (¬ (¬ (m.2.2.1 (64 * x0 + 27) x3.toNatClampNeg) = 0) → (∀ (v_2 : Int32), v_2 = ((x3 - 1) &&& x1) → mEs d 215 b g215 (13, [some (.ref x0), some (.int x1), some (.int 1), some (.int v_2)], [], m) Q))))))))) :
    mEs d 215 b g215 (13, [some (.ref x0), some (.int x1), some (.int x2), some (.int x3)], [], m) Q := by
  refine e_iload_n (pc' := 14) (dAt D215 11 rfl) rfl rfl ?_
  refine e_if_le (t := 45) (pc' := 17) (dAt D215 12 rfl) ⟨by decide, by decide⟩ rfl (fun c => ?_) (fun c => ?_)
  · replace h := h.1 c
    refine e_iload_n (pc' := 46) (dAt D215 31 rfl) rfl rfl ?_
    obtain ⟨f1, h⟩ := h
    exact e_ireturn (dAt D215 32 rfl) rfl ⟨nb01 f1, fun e => by cases e⟩ h
  · replace h := h.2 c
    refine e_iload_n (pc' := 18) (dAt D215 13 rfl) rfl rfl ?_
    refine e_if_eq (t := 45) (pc' := 21) (dAt D215 14 rfl) ⟨by decide, by decide⟩ rfl (fun c => ?_) (fun c => ?_)
    · replace h := h.1 c
      refine e_iload_n (pc' := 46) (dAt D215 31 rfl) rfl rfl ?_
      obtain ⟨f1, h⟩ := h
      exact e_ireturn (dAt D215 32 rfl) rfl ⟨nb01 f1, fun e => by cases e⟩ h
    · replace h := h.2 c
      refine e_aload_n (pc' := 22) (dAt D215 15 rfl) rfl rfl ?_
      refine e_getfield (pc' := 25) (dAt D215 16 rfl) rfl rfl hOx0 (hT.own hOx0 26 rfl) ?_
      refine e_iload_n (pc' := 26) (dAt D215 17 rfl) rfl rfl ?_
      obtain ⟨f1, h⟩ := h
      refine e_zaload (pc' := 27) (dAt D215 18 rfl) rfl (hT.arr hOx0 26 rfl (by decide)).1 (Or.inl (hT.arr hOx0 26 rfl (by decide)).2) f1 rfl ?_
      refine e_if_ne (t := 34) (pc' := 30) (dAt D215 19 rfl) ⟨by decide, by decide⟩ rfl (fun c => ?_) (fun c => ?_)
      · replace h := h.1 c
        refine e_iconst (pc' := 35) (v := 0) (dAt D215 22 rfl) rfl (by decide) ?_
        refine e_istore_n (pc' := 36) (dAt D215 23 rfl) rfl (Nat.le_of_ble_eq_true rfl) rfl ?_
        refine e_iload_n (pc' := 37) (dAt D215 24 rfl) rfl rfl ?_
        refine e_iconst (pc' := 38) (v := 1) (dAt D215 25 rfl) rfl (by decide) ?_
        refine e_isub (pc' := 39) (dAt D215 26 rfl) rfl ?_
        refine e_iload_n (pc' := 40) (dAt D215 27 rfl) rfl rfl ?_
        refine e_iand (pc' := 41) (dAt D215 28 rfl) rfl ?_
        replace h := h _ rfl
        refine e_istore_n (pc' := 42) (dAt D215 29 rfl) rfl (Nat.le_of_ble_eq_true rfl) rfl ?_
        refine e_goto (t := 13) (dAt D215 30 rfl) ⟨by decide, by decide⟩ ?_
        exact h
      · replace h := h.2 c
        refine e_iconst (pc' := 31) (v := 1) (dAt D215 20 rfl) rfl (by decide) ?_
        refine e_goto (t := 35) (dAt D215 21 rfl) ⟨by decide, by decide⟩ ?_
        refine e_istore_n (pc' := 36) (dAt D215 23 rfl) rfl (Nat.le_of_ble_eq_true rfl) rfl ?_
        refine e_iload_n (pc' := 37) (dAt D215 24 rfl) rfl rfl ?_
        refine e_iconst (pc' := 38) (v := 1) (dAt D215 25 rfl) rfl (by decide) ?_
        refine e_isub (pc' := 39) (dAt D215 26 rfl) rfl ?_
        refine e_iload_n (pc' := 40) (dAt D215 27 rfl) rfl rfl ?_
        refine e_iand (pc' := 41) (dAt D215 28 rfl) rfl ?_
        replace h := h _ rfl
        refine e_istore_n (pc' := 42) (dAt D215 29 rfl) rfl (Nat.le_of_ble_eq_true rfl) rfl ?_
        refine e_goto (t := 13) (dAt D215 30 rfl) ⟨by decide, by decide⟩ ?_
        exact h
-- PlaceNetsModel.trapIn.(I)I, from 0
set_option maxRecDepth 20000 in
theorem bk216_0 {d b : Nat} {Q : Option Value → mMem → Prop} {m : mMem} {x0 : Nat} {x1 : Int32} (hT : mWT m) (hOx0 : m.1 x0 = some (.inr 8) ∧ x0 ≠ 0)
    (h : ∀ (m_1 : mMem), m_1 = (mSetF m x0 0 (.int 0)) → ((((iF m_1 x0 18) = 0) → (Q (some (.int ((-1)))) m_1)) ∧ (¬ ((iF m_1 x0 18) = 0) → (mEv d 151 [.long x1.toInt64, .long 0, .long ((1 <<< ((iF m_1 x0 6).toInt64 &&& 63)) - 1)] m_1 (fun r m' => mEs d 216 b g216 (26, [some (.ref x0), some (.int x1)], r.toList ++ [], m') Q))))) :
    mEs d 216 b g216 (0, [some (.ref x0), some (.int x1)], [], m) Q := by
  refine e_aload_n (pc' := 1) (dAt D216 0 rfl) rfl rfl ?_
  refine e_iconst (pc' := 2) (v := 0) (dAt D216 1 rfl) rfl (by decide) ?_
  replace h := h _ rfl
  refine e_putfield (pc' := 5) (dAt D216 2 rfl) rfl rfl hOx0 rfl rfl (fun e => by cases e) ?_
  refine wtF hT hOx0 (by decide) (fun hT_2 => ?_)
  refine e_aload_n (pc' := 6) (dAt D216 3 rfl) rfl rfl ?_
  refine e_getfield (pc' := 9) (dAt D216 4 rfl) rfl rfl hOx0 (hT_2.int hOx0 18 (by decide)) ?_
  refine e_if_eq (t := 37) (pc' := 12) (dAt D216 5 rfl) ⟨by decide, by decide⟩ rfl (fun c => ?_) (fun c => ?_)
  · replace h := h.1 c
    refine e_iconst (pc' := 38) (v := (-1)) (dAt D216 21 rfl) rfl (by decide) ?_
    exact e_ireturn (dAt D216 22 rfl) rfl ⟨rfl, fun e => by cases e⟩ h
  · replace h := h.2 c
    refine e_iload_n (pc' := 13) (dAt D216 6 rfl) rfl rfl ?_
    refine e_i2l (pc' := 14) (dAt D216 7 rfl) rfl ?_
    refine e_lconst (pc' := 15) (v := 0) (dAt D216 8 rfl) rfl (by decide) ?_
    refine e_lconst (pc' := 16) (v := 1) (dAt D216 9 rfl) rfl (by decide) ?_
    refine e_aload_n (pc' := 17) (dAt D216 10 rfl) rfl rfl ?_
    refine e_getfield (pc' := 20) (dAt D216 11 rfl) rfl rfl hOx0 (hT_2.int hOx0 6 (by decide)) ?_
    refine e_lshl (pc' := 21) (dAt D216 12 rfl) rfl ?_
    refine e_lconst (pc' := 22) (v := 1) (dAt D216 13 rfl) rfl (by decide) ?_
    refine e_lsub (pc' := 23) (dAt D216 14 rfl) rfl ?_
    exact e_call2 h (dAt D216 15 rfl) (hi2 rfl) rfl G151 (by decide) rfl (Nat.le_of_ble_eq_true rfl) rfl rfl rfl
-- PlaceNetsModel.trapIn.(I)I, from 26
set_option maxRecDepth 20000 in
theorem bk216_26 {d b : Nat} {Q : Option Value → mMem → Prop} {m : mMem} {x0 : Nat} {x1 : Int32} {y0 : Int32} (hT : mWT m) (hOx0 : m.1 x0 = some (.inr 8) ∧ x0 ≠ 0)
    (h : (((y0 = 0) → (Q (some (.int ((-1)))) m)) ∧ (¬ (y0 = 0) → (mEv d 217 [.ref x0, .int x1] m (fun r m' => mEs d 216 b g216 (34, [some (.ref x0), some (.int x1)], r.toList ++ [], m') Q))))) :
    mEs d 216 b g216 (26, [some (.ref x0), some (.int x1)], [.int y0], m) Q := by
  refine e_if_eq (t := 37) (pc' := 29) (dAt D216 16 rfl) ⟨by decide, by decide⟩ rfl (fun c => ?_) (fun c => ?_)
  · replace h := h.1 c
    refine e_iconst (pc' := 38) (v := (-1)) (dAt D216 21 rfl) rfl (by decide) ?_
    exact e_ireturn (dAt D216 22 rfl) rfl ⟨rfl, fun e => by cases e⟩ h
  · replace h := h.2 c
    refine e_aload_n (pc' := 30) (dAt D216 17 rfl) rfl rfl ?_
    refine e_iload_n (pc' := 31) (dAt D216 18 rfl) rfl rfl ?_
    exact e_call2 h (dAt D216 19 rfl) (hi0 rfl) rfl G217 (by decide) rfl (Nat.le_of_ble_eq_true rfl) (kV hOx0 rfl rfl) rfl rfl
-- PlaceNetsModel.trapIn.(I)I, from 34
set_option maxRecDepth 20000 in
theorem bk216_34 {d b : Nat} {Q : Option Value → mMem → Prop} {m : mMem} {x0 : Nat} {x1 : Int32} {y0 : Int32} (hT : mWT m) (hOx0 : m.1 x0 = some (.inr 8) ∧ x0 ≠ 0)
    (h : Q (some (.int y0)) m) :
    mEs d 216 b g216 (34, [some (.ref x0), some (.int x1)], [.int y0], m) Q := by
  refine e_goto (t := 38) (dAt D216 20 rfl) ⟨by decide, by decide⟩ ?_
  exact e_ireturn (dAt D216 22 rfl) rfl ⟨rfl, fun e => by cases e⟩ h
-- PlaceNetsModel.trapOf.(I)I, from 0
set_option maxRecDepth 20000 in
theorem bk217_0 {d b : Nat} {Q : Option Value → mMem → Prop} {m : mMem} {x0 : Nat} {x1 : Int32} {x2 : Option Value} {x3 : Option Value} {x4 : Option Value} {x5 : Option Value} (hT : mWT m) (hOx0 : m.1 x0 = some (.inr 8) ∧ x0 ≠ 0)
    (h : mEs d 217 b g217 (4, [some (.ref x0), some (.int x1), some (.int x1), some (.int 1), x4, x5], [], m) Q) :
    mEs d 217 b g217 (0, [some (.ref x0), some (.int x1), x2, x3, x4, x5], [], m) Q := by
  refine e_iload_n (pc' := 1) (dAt D217 0 rfl) rfl rfl ?_
  refine e_istore_n (pc' := 2) (dAt D217 1 rfl) rfl (Nat.le_of_ble_eq_true rfl) rfl ?_
  refine e_iconst (pc' := 3) (v := 1) (dAt D217 2 rfl) rfl (by decide) ?_
  refine e_istore_n (pc' := 4) (dAt D217 3 rfl) rfl (Nat.le_of_ble_eq_true rfl) rfl ?_
  exact h
-- PlaceNetsModel.trapOf.(I)I, from 4
set_option maxRecDepth 20000 in
theorem bk217_4 {d b : Nat} {Q : Option Value → mMem → Prop} {m : mMem} {x0 : Nat} {x1 : Int32} {x2 : Int32} {x3 : Int32} {x4 : Option Value} {x5 : Option Value} (hT : mWT m) (hOx0 : m.1 x0 = some (.inr 8) ∧ x0 ≠ 0)
    (h : (((x3 = 0) → (Q (some (.int x2)) m)) ∧ (¬ (x3 = 0) → (mEs d 217 b g217 (13, [some (.ref x0), some (.int x1), some (.int x2), some (.int 0), some (.int 0), x5], [], m) Q)))) :
    mEs d 217 b g217 (4, [some (.ref x0), some (.int x1), some (.int x2), some (.int x3), x4, x5], [], m) Q := by
  refine e_iload_n (pc' := 5) (dAt D217 4 rfl) rfl rfl ?_
  refine e_if_eq (t := 74) (pc' := 8) (dAt D217 5 rfl) ⟨by decide, by decide⟩ rfl (fun c => ?_) (fun c => ?_)
  · replace h := h.1 c
    refine e_iload_n (pc' := 75) (dAt D217 43 rfl) rfl rfl ?_
    exact e_ireturn (dAt D217 44 rfl) rfl ⟨rfl, fun e => by cases e⟩ h
  · replace h := h.2 c
    refine e_iconst (pc' := 9) (v := 0) (dAt D217 6 rfl) rfl (by decide) ?_
    refine e_istore_n (pc' := 10) (dAt D217 7 rfl) rfl (Nat.le_of_ble_eq_true rfl) rfl ?_
    refine e_iconst (pc' := 11) (v := 0) (dAt D217 8 rfl) rfl (by decide) ?_
    refine e_istore (pc' := 13) (dAt D217 9 rfl) rfl (Nat.le_of_ble_eq_true rfl) rfl ?_
    exact h
-- PlaceNetsModel.trapOf.(I)I, from 13
set_option maxRecDepth 20000 in
theorem bk217_13 {d b : Nat} {Q : Option Value → mMem → Prop} {m : mMem} {x0 : Nat} {x1 : Int32} {x2 : Int32} {x3 : Int32} {x4 : Int32} {x5 : Option Value} (hT : mWT m) (hOx0 : m.1 x0 = some (.inr 8) ∧ x0 ≠ 0)
    (h : ((((iF m x0 7) ≤ x4) → (mEs d 217 b g217 (4, [some (.ref x0), some (.int x1), some (.int x2), some (.int x3), some (.int x4), x5], [], m) Q)) ∧ (¬ ((iF m x0 7) ≤ x4) → (mEv d 214 [.ref x0, .ref (64 * x0 + 2), .int x4] m (fun r m' => mEs d 217 b g217 (32, [some (.ref x0), some (.int x1), some (.int x2), some (.int x3), some (.int x4), x5], r.toList ++ [], m') Q))))) :
    mEs d 217 b g217 (13, [some (.ref x0), some (.int x1), some (.int x2), some (.int x3), some (.int x4), x5], [], m) Q := by
  refine e_iload (pc' := 15) (dAt D217 10 rfl) rfl rfl ?_
  refine e_aload_n (pc' := 16) (dAt D217 11 rfl) rfl rfl ?_
  refine e_getfield (pc' := 19) (dAt D217 12 rfl) rfl rfl hOx0 (hT.int hOx0 7 (by decide)) ?_
  refine e_icmp_ge (t := 71) (pc' := 22) (dAt D217 13 rfl) ⟨by decide, by decide⟩ rfl (fun c => ?_) (fun c => ?_)
  · replace h := h.1 c
    refine e_goto (t := 4) (dAt D217 42 rfl) ⟨by decide, by decide⟩ ?_
    exact h
  · replace h := h.2 c
    refine e_aload_n (pc' := 23) (dAt D217 14 rfl) rfl rfl ?_
    refine e_aload_n (pc' := 24) (dAt D217 15 rfl) rfl rfl ?_
    refine e_getfield (pc' := 27) (dAt D217 16 rfl) rfl rfl hOx0 (hT.own hOx0 1 rfl) ?_
    refine e_iload (pc' := 29) (dAt D217 17 rfl) rfl rfl ?_
    exact e_call2 h (dAt D217 18 rfl) (hi0 rfl) rfl G214 (by decide) rfl (Nat.le_of_ble_eq_true rfl) (kV hOx0 rfl rfl) rfl rfl
-- PlaceNetsModel.trapOf.(I)I, from 32
set_option maxRecDepth 20000 in
theorem bk217_32 {d b : Nat} {Q : Option Value → mMem → Prop} {m : mMem} {x0 : Nat} {x1 : Int32} {x2 : Int32} {x3 : Int32} {x4 : Int32} {x5 : Option Value} {y0 : Int32} (hT : mWT m) (hOx0 : m.1 x0 = some (.inr 8) ∧ x0 ≠ 0)
    (h : ∀ (v_1 : Int32), v_1 = (y0 &&& x2) → (((v_1 = 0) → (∀ (v_2 : Int32), v_2 = (x4 + 1) → mEs d 217 b g217 (13, [some (.ref x0), some (.int x1), some (.int x2), some (.int x3), some (.int v_2), some (.int v_1)], [], m) Q)) ∧ (¬ (v_1 = 0) → (mEv d 214 [.ref x0, .ref (64 * x0 + 3), .int x4] m (fun r m' => mEs d 217 b g217 (51, [some (.ref x0), some (.int x1), some (.int x2), some (.int x3), some (.int x4), some (.int v_1)], r.toList ++ [], m') Q))))) :
    mEs d 217 b g217 (32, [some (.ref x0), some (.int x1), some (.int x2), some (.int x3), some (.int x4), x5], [.int y0], m) Q := by
  refine e_iload_n (pc' := 33) (dAt D217 19 rfl) rfl rfl ?_
  refine e_iand (pc' := 34) (dAt D217 20 rfl) rfl ?_
  replace h := h _ rfl
  refine e_istore (pc' := 36) (dAt D217 21 rfl) rfl (Nat.le_of_ble_eq_true rfl) rfl ?_
  refine e_iload (pc' := 38) (dAt D217 22 rfl) rfl rfl ?_
  refine e_if_eq (t := 65) (pc' := 41) (dAt D217 23 rfl) ⟨by decide, by decide⟩ rfl (fun c => ?_) (fun c => ?_)
  · replace h := h.1 c
    replace h := h _ rfl
    refine e_iinc (pc' := 68) (dAt D217 40 rfl) rfl rfl (Nat.le_of_ble_eq_true rfl) (congrArg (_ + ·) (show Int32.ofInt (1) = (1 : Int32) by decide)) rfl ?_
    refine e_goto (t := 13) (dAt D217 41 rfl) ⟨by decide, by decide⟩ ?_
    exact h
  · replace h := h.2 c
    refine e_aload_n (pc' := 42) (dAt D217 24 rfl) rfl rfl ?_
    refine e_aload_n (pc' := 43) (dAt D217 25 rfl) rfl rfl ?_
    refine e_getfield (pc' := 46) (dAt D217 26 rfl) rfl rfl hOx0 (hT.own hOx0 2 rfl) ?_
    refine e_iload (pc' := 48) (dAt D217 27 rfl) rfl rfl ?_
    exact e_call2 h (dAt D217 28 rfl) (hi0 rfl) rfl G214 (by decide) rfl (Nat.le_of_ble_eq_true rfl) (kV hOx0 rfl rfl) rfl rfl
-- PlaceNetsModel.trapOf.(I)I, from 51
set_option maxRecDepth 20000 in
theorem bk217_51 {d b : Nat} {Q : Option Value → mMem → Prop} {m : mMem} {x0 : Nat} {x1 : Int32} {x2 : Int32} {x3 : Int32} {x4 : Int32} {x5 : Int32} {y0 : Int32} (hT : mWT m) (hOx0 : m.1 x0 = some (.inr 8) ∧ x0 ≠ 0)
    (h : (((¬ (y0 &&& x2) = 0) → (∀ (v_1 : Int32), v_1 = (x4 + 1) → mEs d 217 b g217 (13, [some (.ref x0), some (.int x1), some (.int x2), some (.int x3), some (.int v_1), some (.int x5)], [], m) Q)) ∧ (¬ (¬ (y0 &&& x2) = 0) → (∀ (v_2 : Int32), v_2 = (x2 &&& (x5 ^^^ ((-1)))) → ∀ (v_3 : Int32), v_3 = (x4 + 1) → mEs d 217 b g217 (13, [some (.ref x0), some (.int x1), some (.int v_2), some (.int 1), some (.int v_3), some (.int x5)], [], m) Q)))) :
    mEs d 217 b g217 (51, [some (.ref x0), some (.int x1), some (.int x2), some (.int x3), some (.int x4), some (.int x5)], [.int y0], m) Q := by
  refine e_iload_n (pc' := 52) (dAt D217 29 rfl) rfl rfl ?_
  refine e_iand (pc' := 53) (dAt D217 30 rfl) rfl ?_
  refine e_if_ne (t := 65) (pc' := 56) (dAt D217 31 rfl) ⟨by decide, by decide⟩ rfl (fun c => ?_) (fun c => ?_)
  · replace h := h.1 c
    replace h := h _ rfl
    refine e_iinc (pc' := 68) (dAt D217 40 rfl) rfl rfl (Nat.le_of_ble_eq_true rfl) (congrArg (_ + ·) (show Int32.ofInt (1) = (1 : Int32) by decide)) rfl ?_
    refine e_goto (t := 13) (dAt D217 41 rfl) ⟨by decide, by decide⟩ ?_
    exact h
  · replace h := h.2 c
    refine e_iload_n (pc' := 57) (dAt D217 32 rfl) rfl rfl ?_
    refine e_iload (pc' := 59) (dAt D217 33 rfl) rfl rfl ?_
    refine e_iconst (pc' := 60) (v := (-1)) (dAt D217 34 rfl) rfl (by decide) ?_
    refine e_ixor (pc' := 61) (dAt D217 35 rfl) rfl ?_
    refine e_iand (pc' := 62) (dAt D217 36 rfl) rfl ?_
    replace h := h _ rfl
    refine e_istore_n (pc' := 63) (dAt D217 37 rfl) rfl (Nat.le_of_ble_eq_true rfl) rfl ?_
    refine e_iconst (pc' := 64) (v := 1) (dAt D217 38 rfl) rfl (by decide) ?_
    refine e_istore_n (pc' := 65) (dAt D217 39 rfl) rfl (Nat.le_of_ble_eq_true rfl) rfl ?_
    replace h := h _ rfl
    refine e_iinc (pc' := 68) (dAt D217 40 rfl) rfl rfl (Nat.le_of_ble_eq_true rfl) (congrArg (_ + ·) (show Int32.ofInt (1) = (1 : Int32) by decide)) rfl ?_
    refine e_goto (t := 13) (dAt D217 41 rfl) ⟨by decide, by decide⟩ ?_
    exact h
-- PlaceNetsModel.caught.()I, from 0
set_option maxRecDepth 20000 in
theorem bk218_0 {d b : Nat} {Q : Option Value → mMem → Prop} {m : mMem} {x0 : Nat} {x1 : Option Value} {x2 : Option Value} {x3 : Option Value} {x4 : Option Value} {x5 : Option Value} (hT : mWT m) (hOx0 : m.1 x0 = some (.inr 8) ∧ x0 ≠ 0)
    (h : ∀ (m_1 : mMem), m_1 = (mSetF m x0 0 (.int 0)) → (((¬ (iF m_1 x0 18) = 0) → (mEv d 212 [.ref x0, .int 0] m_1 (fun r m' => mEs d 218 b g218 (19, [some (.ref x0), x1, x2, x3, x4, x5], r.toList ++ [], m') Q))) ∧ (¬ (¬ (iF m_1 x0 18) = 0) → (Q (some (.int ((-1)))) m_1)))) :
    mEs d 218 b g218 (0, [some (.ref x0), x1, x2, x3, x4, x5], [], m) Q := by
  refine e_aload_n (pc' := 1) (dAt D218 0 rfl) rfl rfl ?_
  refine e_iconst (pc' := 2) (v := 0) (dAt D218 1 rfl) rfl (by decide) ?_
  replace h := h _ rfl
  refine e_putfield (pc' := 5) (dAt D218 2 rfl) rfl rfl hOx0 rfl rfl (fun e => by cases e) ?_
  refine wtF hT hOx0 (by decide) (fun hT_2 => ?_)
  refine e_aload_n (pc' := 6) (dAt D218 3 rfl) rfl rfl ?_
  refine e_getfield (pc' := 9) (dAt D218 4 rfl) rfl rfl hOx0 (hT_2.int hOx0 18 (by decide)) ?_
  refine e_if_ne (t := 14) (pc' := 12) (dAt D218 5 rfl) ⟨by decide, by decide⟩ rfl (fun c => ?_) (fun c => ?_)
  · replace h := h.1 c
    refine e_aload_n (pc' := 15) (dAt D218 8 rfl) rfl rfl ?_
    refine e_iconst (pc' := 16) (v := 0) (dAt D218 9 rfl) rfl (by decide) ?_
    exact e_call2 h (dAt D218 10 rfl) (hi0 rfl) rfl G212 (by decide) rfl (Nat.le_of_ble_eq_true rfl) (kV hOx0 rfl rfl) rfl rfl
  · replace h := h.2 c
    refine e_iconst (pc' := 13) (v := (-1)) (dAt D218 6 rfl) rfl (by decide) ?_
    exact e_ireturn (dAt D218 7 rfl) rfl ⟨rfl, fun e => by cases e⟩ h
-- PlaceNetsModel.caught.()I, from 19
set_option maxRecDepth 20000 in
theorem bk218_19 {d b : Nat} {Q : Option Value → mMem → Prop} {m : mMem} {x0 : Nat} {x1 : Option Value} {x2 : Option Value} {x3 : Option Value} {x4 : Option Value} {x5 : Option Value} (hT : mWT m) (hOx0 : m.1 x0 = some (.inr 8) ∧ x0 ≠ 0)
    (h : mEs d 218 b g218 (23, [some (.ref x0), some (.int 1), some (.int 1), x3, x4, x5], [], m) Q) :
    mEs d 218 b g218 (19, [some (.ref x0), x1, x2, x3, x4, x5], [], m) Q := by
  refine e_iconst (pc' := 20) (v := 1) (dAt D218 11 rfl) rfl (by decide) ?_
  refine e_istore_n (pc' := 21) (dAt D218 12 rfl) rfl (Nat.le_of_ble_eq_true rfl) rfl ?_
  refine e_iconst (pc' := 22) (v := 1) (dAt D218 13 rfl) rfl (by decide) ?_
  refine e_istore_n (pc' := 23) (dAt D218 14 rfl) rfl (Nat.le_of_ble_eq_true rfl) rfl ?_
  exact h
-- PlaceNetsModel.caught.()I, from 23
set_option maxRecDepth 20000 in
theorem bk218_23 {d b : Nat} {Q : Option Value → mMem → Prop} {m : mMem} {x0 : Nat} {x1 : Int32} {x2 : Int32} {x3 : Option Value} {x4 : Option Value} {x5 : Option Value} (hT : mWT m) (hOx0 : m.1 x0 = some (.inr 8) ∧ x0 ≠ 0)
    (h : (((((1 : Int32) <<< ((iF m x0 6) &&& 31)) ≤ x2) → (((x1 = 0) → (Q (some (.int 0)) m)) ∧ (¬ (x1 = 0) → (Q (some (.int 1)) m)))) ∧ (¬ (((1 : Int32) <<< ((iF m x0 6) &&& 31)) ≤ x2) → (mEv d 215 [.ref x0, .int x2] m (fun r m' => mEs d 218 b g218 (38, [some (.ref x0), some (.int x1), some (.int x2), x3, x4, x5], r.toList ++ [], m') Q))))) :
    mEs d 218 b g218 (23, [some (.ref x0), some (.int x1), some (.int x2), x3, x4, x5], [], m) Q := by
  refine e_iload_n (pc' := 24) (dAt D218 15 rfl) rfl rfl ?_
  refine e_iconst (pc' := 25) (v := 1) (dAt D218 16 rfl) rfl (by decide) ?_
  refine e_aload_n (pc' := 26) (dAt D218 17 rfl) rfl rfl ?_
  refine e_getfield (pc' := 29) (dAt D218 18 rfl) rfl rfl hOx0 (hT.int hOx0 6 (by decide)) ?_
  refine e_ishl (pc' := 30) (dAt D218 19 rfl) rfl ?_
  refine e_icmp_ge (t := 121) (pc' := 33) (dAt D218 20 rfl) ⟨by decide, by decide⟩ rfl (fun c => ?_) (fun c => ?_)
  · replace h := h.1 c
    refine e_iload_n (pc' := 122) (dAt D218 67 rfl) rfl rfl ?_
    refine e_if_eq (t := 129) (pc' := 125) (dAt D218 68 rfl) ⟨by decide, by decide⟩ rfl (fun c => ?_) (fun c => ?_)
    · replace h := h.1 c
      refine e_iconst (pc' := 130) (v := 0) (dAt D218 71 rfl) rfl (by decide) ?_
      exact e_ireturn (dAt D218 72 rfl) rfl ⟨rfl, fun e => by cases e⟩ h
    · replace h := h.2 c
      refine e_iconst (pc' := 126) (v := 1) (dAt D218 69 rfl) rfl (by decide) ?_
      refine e_goto (t := 130) (dAt D218 70 rfl) ⟨by decide, by decide⟩ ?_
      exact e_ireturn (dAt D218 72 rfl) rfl ⟨rfl, fun e => by cases e⟩ h
  · replace h := h.2 c
    refine e_aload_n (pc' := 34) (dAt D218 21 rfl) rfl rfl ?_
    refine e_iload_n (pc' := 35) (dAt D218 22 rfl) rfl rfl ?_
    exact e_call2 h (dAt D218 23 rfl) (hi0 rfl) rfl G215 (by decide) rfl (Nat.le_of_ble_eq_true rfl) (kV hOx0 rfl rfl) rfl rfl
-- PlaceNetsModel.caught.()I, from 38
set_option maxRecDepth 20000 in
theorem bk218_38 {d b : Nat} {Q : Option Value → mMem → Prop} {m : mMem} {x0 : Nat} {x1 : Int32} {x2 : Int32} {x3 : Option Value} {x4 : Option Value} {x5 : Option Value} {y0 : Int32} (hT : mWT m) (hOx0 : m.1 x0 = some (.inr 8) ∧ x0 ≠ 0)
    (h : (((y0 = 0) → (∀ (v_1 : Int32), v_1 = (x2 + 1) → mEs d 218 b g218 (23, [some (.ref x0), some (.int x1), some (.int v_1), x3, x4, x5], [], m) Q)) ∧ (¬ (y0 = 0) → (mEv d 217 [.ref x0, .int x2] m (fun r m' => mEs d 218 b g218 (46, [some (.ref x0), some (.int x1), some (.int x2), x3, x4, x5], r.toList ++ [], m') Q))))) :
    mEs d 218 b g218 (38, [some (.ref x0), some (.int x1), some (.int x2), x3, x4, x5], [.int y0], m) Q := by
  refine e_if_eq (t := 115) (pc' := 41) (dAt D218 24 rfl) ⟨by decide, by decide⟩ rfl (fun c => ?_) (fun c => ?_)
  · replace h := h.1 c
    replace h := h _ rfl
    refine e_iinc (pc' := 118) (dAt D218 65 rfl) rfl rfl (Nat.le_of_ble_eq_true rfl) (congrArg (_ + ·) (show Int32.ofInt (1) = (1 : Int32) by decide)) rfl ?_
    refine e_goto (t := 23) (dAt D218 66 rfl) ⟨by decide, by decide⟩ ?_
    exact h
  · replace h := h.2 c
    refine e_aload_n (pc' := 42) (dAt D218 25 rfl) rfl rfl ?_
    refine e_iload_n (pc' := 43) (dAt D218 26 rfl) rfl rfl ?_
    exact e_call2 h (dAt D218 27 rfl) (hi0 rfl) rfl G217 (by decide) rfl (Nat.le_of_ble_eq_true rfl) (kV hOx0 rfl rfl) rfl rfl
-- PlaceNetsModel.caught.()I, from 46
set_option maxRecDepth 20000 in
theorem bk218_46 {d b : Nat} {Q : Option Value → mMem → Prop} {m : mMem} {x0 : Nat} {x1 : Int32} {x2 : Int32} {x3 : Option Value} {x4 : Option Value} {x5 : Option Value} {y0 : Int32} (hT : mWT m) (hOx0 : m.1 x0 = some (.inr 8) ∧ x0 ≠ 0)
    (h : mEs d 218 b g218 (53, [some (.ref x0), some (.int x1), some (.int x2), some (.int y0), some (.int 0), some (.int 0)], [], m) Q) :
    mEs d 218 b g218 (46, [some (.ref x0), some (.int x1), some (.int x2), x3, x4, x5], [.int y0], m) Q := by
  refine e_istore_n (pc' := 47) (dAt D218 28 rfl) rfl (Nat.le_of_ble_eq_true rfl) rfl ?_
  refine e_iconst (pc' := 48) (v := 0) (dAt D218 29 rfl) rfl (by decide) ?_
  refine e_istore (pc' := 50) (dAt D218 30 rfl) rfl (Nat.le_of_ble_eq_true rfl) rfl ?_
  refine e_iconst (pc' := 51) (v := 0) (dAt D218 31 rfl) rfl (by decide) ?_
  refine e_istore (pc' := 53) (dAt D218 32 rfl) rfl (Nat.le_of_ble_eq_true rfl) rfl ?_
  exact h
-- PlaceNetsModel.caught.()I, from 53
set_option maxRecDepth 20000 in
theorem bk218_53 {d b : Nat} {Q : Option Value → mMem → Prop} {m : mMem} {x0 : Nat} {x1 : Int32} {x2 : Int32} {x3 : Int32} {x4 : Int32} {x5 : Int32} (hT : mWT m) (hOx0 : m.1 x0 = some (.inr 8) ∧ x0 ≠ 0)
    (h : ((((iF m x0 6) ≤ x5) → (((x1 = 0) → (∀ (v_1 : Int32), v_1 = (x2 + 1) → mEs d 218 b g218 (23, [some (.ref x0), some (.int 0), some (.int v_1), some (.int x3), some (.int x4), some (.int x5)], [], m) Q)) ∧ (¬ (x1 = 0) → (((x4 = 0) → (∀ (v_2 : Int32), v_2 = (x2 + 1) → mEs d 218 b g218 (23, [some (.ref x0), some (.int 0), some (.int v_2), some (.int x3), some (.int x4), some (.int x5)], [], m) Q)) ∧ (¬ (x4 = 0) → (∀ (v_3 : Int32), v_3 = (x2 + 1) → mEs d 218 b g218 (23, [some (.ref x0), some (.int 1), some (.int v_3), some (.int x3), some (.int x4), some (.int x5)], [], m) Q)))))) ∧ (¬ ((iF m x0 6) ≤ x5) → (((¬ x4 = 0) → (∀ (v_4 : Int32), v_4 = (x5 + 1) → mEs d 218 b g218 (53, [some (.ref x0), some (.int x1), some (.int x2), some (.int x3), some (.int 1), some (.int v_4)], [], m) Q)) ∧ (¬ (¬ x4 = 0) → (((¬ ((x3 >>> (x5 &&& 31)) &&& 1) = 1) → (∀ (v_5 : Int32), v_5 = (x5 + 1) → mEs d 218 b g218 (53, [some (.ref x0), some (.int x1), some (.int x2), some (.int x3), some (.int 0), some (.int v_5)], [], m) Q)) ∧ (¬ (¬ ((x3 >>> (x5 &&& 31)) &&& 1) = 1) → ((mIn x5 10 = true) ∧ ((((m.2.2.1 (64 * x0 + 4) x5.toNatClampNeg) ≤ 0) → (∀ (v_6 : Int32), v_6 = (x5 + 1) → mEs d 218 b g218 (53, [some (.ref x0), some (.int x1), some (.int x2), some (.int x3), some (.int 0), some (.int v_6)], [], m) Q)) ∧ (¬ ((m.2.2.1 (64 * x0 + 4) x5.toNatClampNeg) ≤ 0) → (∀ (v_7 : Int32), v_7 = (x5 + 1) → mEs d 218 b g218 (53, [some (.ref x0), some (.int x1), some (.int x2), some (.int x3), some (.int 1), some (.int v_7)], [], m) Q))))))))))) :
    mEs d 218 b g218 (53, [some (.ref x0), some (.int x1), some (.int x2), some (.int x3), some (.int x4), some (.int x5)], [], m) Q := by
  refine e_iload (pc' := 55) (dAt D218 33 rfl) rfl rfl ?_
  refine e_aload_n (pc' := 56) (dAt D218 34 rfl) rfl rfl ?_
  refine e_getfield (pc' := 59) (dAt D218 35 rfl) rfl rfl hOx0 (hT.int hOx0 6 (by decide)) ?_
  refine e_icmp_ge (t := 100) (pc' := 62) (dAt D218 36 rfl) ⟨by decide, by decide⟩ rfl (fun c => ?_) (fun c => ?_)
  · replace h := h.1 c
    refine e_iload_n (pc' := 101) (dAt D218 57 rfl) rfl rfl ?_
    refine e_if_eq (t := 113) (pc' := 104) (dAt D218 58 rfl) ⟨by decide, by decide⟩ rfl (fun c => ?_) (fun c => ?_)
    · replace h := h.1 c
      refine e_iconst (pc' := 114) (v := 0) (dAt D218 63 rfl) rfl (by decide) ?_
      refine e_istore_n (pc' := 115) (dAt D218 64 rfl) rfl (Nat.le_of_ble_eq_true rfl) rfl ?_
      replace h := h _ rfl
      refine e_iinc (pc' := 118) (dAt D218 65 rfl) rfl rfl (Nat.le_of_ble_eq_true rfl) (congrArg (_ + ·) (show Int32.ofInt (1) = (1 : Int32) by decide)) rfl ?_
      refine e_goto (t := 23) (dAt D218 66 rfl) ⟨by decide, by decide⟩ ?_
      exact h
    · replace h := h.2 c
      refine e_iload (pc' := 106) (dAt D218 59 rfl) rfl rfl ?_
      refine e_if_eq (t := 113) (pc' := 109) (dAt D218 60 rfl) ⟨by decide, by decide⟩ rfl (fun c => ?_) (fun c => ?_)
      · replace h := h.1 c
        refine e_iconst (pc' := 114) (v := 0) (dAt D218 63 rfl) rfl (by decide) ?_
        refine e_istore_n (pc' := 115) (dAt D218 64 rfl) rfl (Nat.le_of_ble_eq_true rfl) rfl ?_
        replace h := h _ rfl
        refine e_iinc (pc' := 118) (dAt D218 65 rfl) rfl rfl (Nat.le_of_ble_eq_true rfl) (congrArg (_ + ·) (show Int32.ofInt (1) = (1 : Int32) by decide)) rfl ?_
        refine e_goto (t := 23) (dAt D218 66 rfl) ⟨by decide, by decide⟩ ?_
        exact h
      · replace h := h.2 c
        refine e_iconst (pc' := 110) (v := 1) (dAt D218 61 rfl) rfl (by decide) ?_
        refine e_goto (t := 114) (dAt D218 62 rfl) ⟨by decide, by decide⟩ ?_
        refine e_istore_n (pc' := 115) (dAt D218 64 rfl) rfl (Nat.le_of_ble_eq_true rfl) rfl ?_
        replace h := h _ rfl
        refine e_iinc (pc' := 118) (dAt D218 65 rfl) rfl rfl (Nat.le_of_ble_eq_true rfl) (congrArg (_ + ·) (show Int32.ofInt (1) = (1 : Int32) by decide)) rfl ?_
        refine e_goto (t := 23) (dAt D218 66 rfl) ⟨by decide, by decide⟩ ?_
        exact h
  · replace h := h.2 c
    refine e_iload (pc' := 64) (dAt D218 37 rfl) rfl rfl ?_
    refine e_if_ne (t := 87) (pc' := 67) (dAt D218 38 rfl) ⟨by decide, by decide⟩ rfl (fun c => ?_) (fun c => ?_)
    · replace h := h.1 c
      refine e_iconst (pc' := 88) (v := 1) (dAt D218 51 rfl) rfl (by decide) ?_
      refine e_goto (t := 92) (dAt D218 52 rfl) ⟨by decide, by decide⟩ ?_
      refine e_istore (pc' := 94) (dAt D218 54 rfl) rfl (Nat.le_of_ble_eq_true rfl) rfl ?_
      replace h := h _ rfl
      refine e_iinc (pc' := 97) (dAt D218 55 rfl) rfl rfl (Nat.le_of_ble_eq_true rfl) (congrArg (_ + ·) (show Int32.ofInt (1) = (1 : Int32) by decide)) rfl ?_
      refine e_goto (t := 53) (dAt D218 56 rfl) ⟨by decide, by decide⟩ ?_
      exact h
    · replace h := h.2 c
      refine e_iload_n (pc' := 68) (dAt D218 39 rfl) rfl rfl ?_
      refine e_iload (pc' := 70) (dAt D218 40 rfl) rfl rfl ?_
      refine e_ishr (pc' := 71) (dAt D218 41 rfl) rfl ?_
      refine e_iconst (pc' := 72) (v := 1) (dAt D218 42 rfl) rfl (by decide) ?_
      refine e_iand (pc' := 73) (dAt D218 43 rfl) rfl ?_
      refine e_iconst (pc' := 74) (v := 1) (dAt D218 44 rfl) rfl (by decide) ?_
      refine e_icmp_ne (t := 91) (pc' := 77) (dAt D218 45 rfl) ⟨by decide, by decide⟩ rfl (fun c => ?_) (fun c => ?_)
      · replace h := h.1 c
        refine e_iconst (pc' := 92) (v := 0) (dAt D218 53 rfl) rfl (by decide) ?_
        refine e_istore (pc' := 94) (dAt D218 54 rfl) rfl (Nat.le_of_ble_eq_true rfl) rfl ?_
        replace h := h _ rfl
        refine e_iinc (pc' := 97) (dAt D218 55 rfl) rfl rfl (Nat.le_of_ble_eq_true rfl) (congrArg (_ + ·) (show Int32.ofInt (1) = (1 : Int32) by decide)) rfl ?_
        refine e_goto (t := 53) (dAt D218 56 rfl) ⟨by decide, by decide⟩ ?_
        exact h
      · replace h := h.2 c
        refine e_aload_n (pc' := 78) (dAt D218 46 rfl) rfl rfl ?_
        refine e_getfield (pc' := 81) (dAt D218 47 rfl) rfl rfl hOx0 (hT.own hOx0 3 rfl) ?_
        refine e_iload (pc' := 83) (dAt D218 48 rfl) rfl rfl ?_
        obtain ⟨f1, h⟩ := h
        refine e_iaload (pc' := 84) (dAt D218 49 rfl) rfl (hT.arr hOx0 3 rfl (by decide)).1 (Or.inl (hT.arr hOx0 3 rfl (by decide)).2) f1 rfl ?_
        refine e_if_le (t := 91) (pc' := 87) (dAt D218 50 rfl) ⟨by decide, by decide⟩ rfl (fun c => ?_) (fun c => ?_)
        · replace h := h.1 c
          refine e_iconst (pc' := 92) (v := 0) (dAt D218 53 rfl) rfl (by decide) ?_
          refine e_istore (pc' := 94) (dAt D218 54 rfl) rfl (Nat.le_of_ble_eq_true rfl) rfl ?_
          replace h := h _ rfl
          refine e_iinc (pc' := 97) (dAt D218 55 rfl) rfl rfl (Nat.le_of_ble_eq_true rfl) (congrArg (_ + ·) (show Int32.ofInt (1) = (1 : Int32) by decide)) rfl ?_
          refine e_goto (t := 53) (dAt D218 56 rfl) ⟨by decide, by decide⟩ ?_
          exact h
        · replace h := h.2 c
          refine e_iconst (pc' := 88) (v := 1) (dAt D218 51 rfl) rfl (by decide) ?_
          refine e_goto (t := 92) (dAt D218 52 rfl) ⟨by decide, by decide⟩ ?_
          refine e_istore (pc' := 94) (dAt D218 54 rfl) rfl (Nat.le_of_ble_eq_true rfl) rfl ?_
          replace h := h _ rfl
          refine e_iinc (pc' := 97) (dAt D218 55 rfl) rfl rfl (Nat.le_of_ble_eq_true rfl) (congrArg (_ + ·) (show Int32.ofInt (1) = (1 : Int32) by decide)) rfl ?_
          refine e_goto (t := 53) (dAt D218 56 rfl) ⟨by decide, by decide⟩ ?_
          exact h
-- PlaceNetsModel.kinds.()I, from 0
set_option maxRecDepth 20000 in
theorem bk219_0 {d b : Nat} {Q : Option Value → mMem → Prop} {m : mMem} {x0 : Nat} {x1 : Option Value} {x2 : Option Value} {x3 : Option Value} {x4 : Option Value} {x5 : Option Value} {x6 : Option Value} {x7 : Option Value} (hT : mWT m) (hOx0 : m.1 x0 = some (.inr 8) ∧ x0 ≠ 0)
    (h : ∀ (m_1 : mMem), m_1 = (mSetF m x0 0 (.int 0)) → (((¬ (iF m_1 x0 18) = 0) → (mEs d 219 b g219 (23, [some (.ref x0), some (.int 1), some (.int 1), some (.int 1), some (.int 0), x5, x6, x7], [], m_1) Q)) ∧ (¬ (¬ (iF m_1 x0 18) = 0) → (Q (some (.int ((-1)))) m_1)))) :
    mEs d 219 b g219 (0, [some (.ref x0), x1, x2, x3, x4, x5, x6, x7], [], m) Q := by
  refine e_aload_n (pc' := 1) (dAt D219 0 rfl) rfl rfl ?_
  refine e_iconst (pc' := 2) (v := 0) (dAt D219 1 rfl) rfl (by decide) ?_
  replace h := h _ rfl
  refine e_putfield (pc' := 5) (dAt D219 2 rfl) rfl rfl hOx0 rfl rfl (fun e => by cases e) ?_
  refine wtF hT hOx0 (by decide) (fun hT_2 => ?_)
  refine e_aload_n (pc' := 6) (dAt D219 3 rfl) rfl rfl ?_
  refine e_getfield (pc' := 9) (dAt D219 4 rfl) rfl rfl hOx0 (hT_2.int hOx0 18 (by decide)) ?_
  refine e_if_ne (t := 14) (pc' := 12) (dAt D219 5 rfl) ⟨by decide, by decide⟩ rfl (fun c => ?_) (fun c => ?_)
  · replace h := h.1 c
    refine e_iconst (pc' := 15) (v := 1) (dAt D219 8 rfl) rfl (by decide) ?_
    refine e_istore_n (pc' := 16) (dAt D219 9 rfl) rfl (Nat.le_of_ble_eq_true rfl) rfl ?_
    refine e_iconst (pc' := 17) (v := 1) (dAt D219 10 rfl) rfl (by decide) ?_
    refine e_istore_n (pc' := 18) (dAt D219 11 rfl) rfl (Nat.le_of_ble_eq_true rfl) rfl ?_
    refine e_iconst (pc' := 19) (v := 1) (dAt D219 12 rfl) rfl (by decide) ?_
    refine e_istore_n (pc' := 20) (dAt D219 13 rfl) rfl (Nat.le_of_ble_eq_true rfl) rfl ?_
    refine e_iconst (pc' := 21) (v := 0) (dAt D219 14 rfl) rfl (by decide) ?_
    refine e_istore (pc' := 23) (dAt D219 15 rfl) rfl (Nat.le_of_ble_eq_true rfl) rfl ?_
    exact h
  · replace h := h.2 c
    refine e_iconst (pc' := 13) (v := (-1)) (dAt D219 6 rfl) rfl (by decide) ?_
    exact e_ireturn (dAt D219 7 rfl) rfl ⟨rfl, fun e => by cases e⟩ h
-- PlaceNetsModel.kinds.()I, from 23
set_option maxRecDepth 20000 in
theorem bk219_23 {d b : Nat} {Q : Option Value → mMem → Prop} {m : mMem} {x0 : Nat} {x1 : Int32} {x2 : Int32} {x3 : Int32} {x4 : Int32} {x5 : Option Value} {x6 : Option Value} {x7 : Option Value} (hT : mWT m) (hOx0 : m.1 x0 = some (.inr 8) ∧ x0 ≠ 0)
    (h : ((((iF m x0 7) ≤ x4) → (mEv d 221 [.ref x0] m (fun r m' => mEs d 219 b g219 (171, [some (.ref x0), some (.int x1), some (.int x2), some (.int x3), some (.int x4), x5, x6, x7], r.toList ++ [], m') Q))) ∧ (¬ ((iF m x0 7) ≤ x4) → (mEv d 214 [.ref x0, .ref (64 * x0 + 2), .int x4] m (fun r m' => mEs d 219 b g219 (42, [some (.ref x0), some (.int x1), some (.int x2), some (.int x3), some (.int x4), x5, x6, x7], r.toList ++ [], m') Q))))) :
    mEs d 219 b g219 (23, [some (.ref x0), some (.int x1), some (.int x2), some (.int x3), some (.int x4), x5, x6, x7], [], m) Q := by
  refine e_iload (pc' := 25) (dAt D219 16 rfl) rfl rfl ?_
  refine e_aload_n (pc' := 26) (dAt D219 17 rfl) rfl rfl ?_
  refine e_getfield (pc' := 29) (dAt D219 18 rfl) rfl rfl hOx0 (hT.int hOx0 7 (by decide)) ?_
  refine e_icmp_ge (t := 167) (pc' := 32) (dAt D219 19 rfl) ⟨by decide, by decide⟩ rfl (fun c => ?_) (fun c => ?_)
  · replace h := h.1 c
    refine e_aload_n (pc' := 168) (dAt D219 88 rfl) rfl rfl ?_
    exact e_call2 h (dAt D219 89 rfl) (hi0 rfl) rfl G221 (by decide) rfl (Nat.le_of_ble_eq_true rfl) (kV hOx0 rfl rfl) rfl rfl
  · replace h := h.2 c
    refine e_aload_n (pc' := 33) (dAt D219 20 rfl) rfl rfl ?_
    refine e_aload_n (pc' := 34) (dAt D219 21 rfl) rfl rfl ?_
    refine e_getfield (pc' := 37) (dAt D219 22 rfl) rfl rfl hOx0 (hT.own hOx0 1 rfl) ?_
    refine e_iload (pc' := 39) (dAt D219 23 rfl) rfl rfl ?_
    exact e_call2 h (dAt D219 24 rfl) (hi0 rfl) rfl G214 (by decide) rfl (Nat.le_of_ble_eq_true rfl) (kV hOx0 rfl rfl) rfl rfl
-- PlaceNetsModel.kinds.()I, from 42
set_option maxRecDepth 20000 in
theorem bk219_42 {d b : Nat} {Q : Option Value → mMem → Prop} {m : mMem} {x0 : Nat} {x1 : Int32} {x2 : Int32} {x3 : Int32} {x4 : Int32} {x5 : Option Value} {x6 : Option Value} {x7 : Option Value} {y0 : Int32} (hT : mWT m) (hOx0 : m.1 x0 = some (.inr 8) ∧ x0 ≠ 0)
    (h : (((x1 = 0) → (((x2 = 0) → (mEs d 219 b g219 (111, [some (.ref x0), some (.int 0), some (.int 0), some (.int x3), some (.int x4), some (.int y0), some (.int 0), x7], [], m) Q)) ∧ (¬ (x2 = 0) → (mEv d 220 [.ref x0, .ref (64 * x0 + 2), .int x4] m (fun r m' => mEs d 219 b g219 (84, [some (.ref x0), some (.int 0), some (.int x2), some (.int x3), some (.int x4), some (.int y0), x6, x7], r.toList ++ [], m') Q))))) ∧ (¬ (x1 = 0) → (mEv d 214 [.ref x0, .ref (64 * x0 + 3), .int x4] m (fun r m' => mEs d 219 b g219 (60, [some (.ref x0), some (.int x1), some (.int x2), some (.int x3), some (.int x4), some (.int y0), x6, x7], r.toList ++ [.int y0], m') Q))))) :
    mEs d 219 b g219 (42, [some (.ref x0), some (.int x1), some (.int x2), some (.int x3), some (.int x4), x5, x6, x7], [.int y0], m) Q := by
  refine e_istore (pc' := 44) (dAt D219 25 rfl) rfl (Nat.le_of_ble_eq_true rfl) rfl ?_
  refine e_iload_n (pc' := 45) (dAt D219 26 rfl) rfl rfl ?_
  refine e_if_eq (t := 68) (pc' := 48) (dAt D219 27 rfl) ⟨by decide, by decide⟩ rfl (fun c => ?_) (fun c => ?_)
  · replace h := h.1 c
    refine e_iconst (pc' := 69) (v := 0) (dAt D219 38 rfl) rfl (by decide) ?_
    refine e_istore_n (pc' := 70) (dAt D219 39 rfl) rfl (Nat.le_of_ble_eq_true rfl) rfl ?_
    refine e_iload_n (pc' := 71) (dAt D219 40 rfl) rfl rfl ?_
    refine e_if_eq (t := 106) (pc' := 74) (dAt D219 41 rfl) ⟨by decide, by decide⟩ rfl (fun c => ?_) (fun c => ?_)
    · replace h := h.1 c
      refine e_iconst (pc' := 107) (v := 0) (dAt D219 58 rfl) rfl (by decide) ?_
      refine e_istore_n (pc' := 108) (dAt D219 59 rfl) rfl (Nat.le_of_ble_eq_true rfl) rfl ?_
      refine e_iconst (pc' := 109) (v := 0) (dAt D219 60 rfl) rfl (by decide) ?_
      refine e_istore (pc' := 111) (dAt D219 61 rfl) rfl (Nat.le_of_ble_eq_true rfl) rfl ?_
      exact h
    · replace h := h.2 c
      refine e_aload_n (pc' := 75) (dAt D219 42 rfl) rfl rfl ?_
      refine e_aload_n (pc' := 76) (dAt D219 43 rfl) rfl rfl ?_
      refine e_getfield (pc' := 79) (dAt D219 44 rfl) rfl rfl hOx0 (hT.own hOx0 1 rfl) ?_
      refine e_iload (pc' := 81) (dAt D219 45 rfl) rfl rfl ?_
      exact e_call2 h (dAt D219 46 rfl) (hi0 rfl) rfl G220 (by decide) rfl (Nat.le_of_ble_eq_true rfl) (kV hOx0 rfl rfl) rfl rfl
  · replace h := h.2 c
    refine e_iload (pc' := 50) (dAt D219 28 rfl) rfl rfl ?_
    refine e_aload_n (pc' := 51) (dAt D219 29 rfl) rfl rfl ?_
    refine e_aload_n (pc' := 52) (dAt D219 30 rfl) rfl rfl ?_
    refine e_getfield (pc' := 55) (dAt D219 31 rfl) rfl rfl hOx0 (hT.own hOx0 2 rfl) ?_
    refine e_iload (pc' := 57) (dAt D219 32 rfl) rfl rfl ?_
    exact e_call2 h (dAt D219 33 rfl) (hi0 rfl) rfl G214 (by decide) rfl (Nat.le_of_ble_eq_true rfl) (kV hOx0 rfl rfl) rfl rfl
-- PlaceNetsModel.kinds.()I, from 60
set_option maxRecDepth 20000 in
theorem bk219_60 {d b : Nat} {Q : Option Value → mMem → Prop} {m : mMem} {x0 : Nat} {x1 : Int32} {x2 : Int32} {x3 : Int32} {x4 : Int32} {x5 : Int32} {x6 : Option Value} {x7 : Option Value} {y0 : Int32} {y1 : Int32} (hT : mWT m) (hOx0 : m.1 x0 = some (.inr 8) ∧ x0 ≠ 0)
    (h : (((¬ (y0 &&& y1) = 0) → (((x2 = 0) → (mEs d 219 b g219 (111, [some (.ref x0), some (.int 0), some (.int 0), some (.int x3), some (.int x4), some (.int x5), some (.int 0), x7], [], m) Q)) ∧ (¬ (x2 = 0) → (mEv d 220 [.ref x0, .ref (64 * x0 + 2), .int x4] m (fun r m' => mEs d 219 b g219 (84, [some (.ref x0), some (.int 0), some (.int x2), some (.int x3), some (.int x4), some (.int x5), x6, x7], r.toList ++ [], m') Q))))) ∧ (¬ (¬ (y0 &&& y1) = 0) → (((x2 = 0) → (mEs d 219 b g219 (111, [some (.ref x0), some (.int 1), some (.int 0), some (.int x3), some (.int x4), some (.int x5), some (.int 0), x7], [], m) Q)) ∧ (¬ (x2 = 0) → (mEv d 220 [.ref x0, .ref (64 * x0 + 2), .int x4] m (fun r m' => mEs d 219 b g219 (84, [some (.ref x0), some (.int 1), some (.int x2), some (.int x3), some (.int x4), some (.int x5), x6, x7], r.toList ++ [], m') Q))))))) :
    mEs d 219 b g219 (60, [some (.ref x0), some (.int x1), some (.int x2), some (.int x3), some (.int x4), some (.int x5), x6, x7], [.int y1, .int y0], m) Q := by
  refine e_iand (pc' := 61) (dAt D219 34 rfl) rfl ?_
  refine e_if_ne (t := 68) (pc' := 64) (dAt D219 35 rfl) ⟨by decide, by decide⟩ rfl (fun c => ?_) (fun c => ?_)
  · replace h := h.1 c
    refine e_iconst (pc' := 69) (v := 0) (dAt D219 38 rfl) rfl (by decide) ?_
    refine e_istore_n (pc' := 70) (dAt D219 39 rfl) rfl (Nat.le_of_ble_eq_true rfl) rfl ?_
    refine e_iload_n (pc' := 71) (dAt D219 40 rfl) rfl rfl ?_
    refine e_if_eq (t := 106) (pc' := 74) (dAt D219 41 rfl) ⟨by decide, by decide⟩ rfl (fun c => ?_) (fun c => ?_)
    · replace h := h.1 c
      refine e_iconst (pc' := 107) (v := 0) (dAt D219 58 rfl) rfl (by decide) ?_
      refine e_istore_n (pc' := 108) (dAt D219 59 rfl) rfl (Nat.le_of_ble_eq_true rfl) rfl ?_
      refine e_iconst (pc' := 109) (v := 0) (dAt D219 60 rfl) rfl (by decide) ?_
      refine e_istore (pc' := 111) (dAt D219 61 rfl) rfl (Nat.le_of_ble_eq_true rfl) rfl ?_
      exact h
    · replace h := h.2 c
      refine e_aload_n (pc' := 75) (dAt D219 42 rfl) rfl rfl ?_
      refine e_aload_n (pc' := 76) (dAt D219 43 rfl) rfl rfl ?_
      refine e_getfield (pc' := 79) (dAt D219 44 rfl) rfl rfl hOx0 (hT.own hOx0 1 rfl) ?_
      refine e_iload (pc' := 81) (dAt D219 45 rfl) rfl rfl ?_
      exact e_call2 h (dAt D219 46 rfl) (hi0 rfl) rfl G220 (by decide) rfl (Nat.le_of_ble_eq_true rfl) (kV hOx0 rfl rfl) rfl rfl
  · replace h := h.2 c
    refine e_iconst (pc' := 65) (v := 1) (dAt D219 36 rfl) rfl (by decide) ?_
    refine e_goto (t := 69) (dAt D219 37 rfl) ⟨by decide, by decide⟩ ?_
    refine e_istore_n (pc' := 70) (dAt D219 39 rfl) rfl (Nat.le_of_ble_eq_true rfl) rfl ?_
    refine e_iload_n (pc' := 71) (dAt D219 40 rfl) rfl rfl ?_
    refine e_if_eq (t := 106) (pc' := 74) (dAt D219 41 rfl) ⟨by decide, by decide⟩ rfl (fun c => ?_) (fun c => ?_)
    · replace h := h.1 c
      refine e_iconst (pc' := 107) (v := 0) (dAt D219 58 rfl) rfl (by decide) ?_
      refine e_istore_n (pc' := 108) (dAt D219 59 rfl) rfl (Nat.le_of_ble_eq_true rfl) rfl ?_
      refine e_iconst (pc' := 109) (v := 0) (dAt D219 60 rfl) rfl (by decide) ?_
      refine e_istore (pc' := 111) (dAt D219 61 rfl) rfl (Nat.le_of_ble_eq_true rfl) rfl ?_
      exact h
    · replace h := h.2 c
      refine e_aload_n (pc' := 75) (dAt D219 42 rfl) rfl rfl ?_
      refine e_aload_n (pc' := 76) (dAt D219 43 rfl) rfl rfl ?_
      refine e_getfield (pc' := 79) (dAt D219 44 rfl) rfl rfl hOx0 (hT.own hOx0 1 rfl) ?_
      refine e_iload (pc' := 81) (dAt D219 45 rfl) rfl rfl ?_
      exact e_call2 h (dAt D219 46 rfl) (hi0 rfl) rfl G220 (by decide) rfl (Nat.le_of_ble_eq_true rfl) (kV hOx0 rfl rfl) rfl rfl
-- PlaceNetsModel.kinds.()I, from 84
set_option maxRecDepth 20000 in
theorem bk219_84 {d b : Nat} {Q : Option Value → mMem → Prop} {m : mMem} {x0 : Nat} {x1 : Int32} {x2 : Int32} {x3 : Int32} {x4 : Int32} {x5 : Int32} {x6 : Option Value} {x7 : Option Value} {y0 : Int32} (hT : mWT m) (hOx0 : m.1 x0 = some (.inr 8) ∧ x0 ≠ 0)
    (h : (((¬ y0 = 1) → (mEs d 219 b g219 (111, [some (.ref x0), some (.int x1), some (.int 0), some (.int x3), some (.int x4), some (.int x5), some (.int 0), x7], [], m) Q)) ∧ (¬ (¬ y0 = 1) → (mEv d 220 [.ref x0, .ref (64 * x0 + 3), .int x4] m (fun r m' => mEs d 219 b g219 (98, [some (.ref x0), some (.int x1), some (.int x2), some (.int x3), some (.int x4), some (.int x5), x6, x7], r.toList ++ [], m') Q))))) :
    mEs d 219 b g219 (84, [some (.ref x0), some (.int x1), some (.int x2), some (.int x3), some (.int x4), some (.int x5), x6, x7], [.int y0], m) Q := by
  refine e_iconst (pc' := 85) (v := 1) (dAt D219 47 rfl) rfl (by decide) ?_
  refine e_icmp_ne (t := 106) (pc' := 88) (dAt D219 48 rfl) ⟨by decide, by decide⟩ rfl (fun c => ?_) (fun c => ?_)
  · replace h := h.1 c
    refine e_iconst (pc' := 107) (v := 0) (dAt D219 58 rfl) rfl (by decide) ?_
    refine e_istore_n (pc' := 108) (dAt D219 59 rfl) rfl (Nat.le_of_ble_eq_true rfl) rfl ?_
    refine e_iconst (pc' := 109) (v := 0) (dAt D219 60 rfl) rfl (by decide) ?_
    refine e_istore (pc' := 111) (dAt D219 61 rfl) rfl (Nat.le_of_ble_eq_true rfl) rfl ?_
    exact h
  · replace h := h.2 c
    refine e_aload_n (pc' := 89) (dAt D219 49 rfl) rfl rfl ?_
    refine e_aload_n (pc' := 90) (dAt D219 50 rfl) rfl rfl ?_
    refine e_getfield (pc' := 93) (dAt D219 51 rfl) rfl rfl hOx0 (hT.own hOx0 2 rfl) ?_
    refine e_iload (pc' := 95) (dAt D219 52 rfl) rfl rfl ?_
    exact e_call2 h (dAt D219 53 rfl) (hi0 rfl) rfl G220 (by decide) rfl (Nat.le_of_ble_eq_true rfl) (kV hOx0 rfl rfl) rfl rfl
-- PlaceNetsModel.kinds.()I, from 98
set_option maxRecDepth 20000 in
theorem bk219_98 {d b : Nat} {Q : Option Value → mMem → Prop} {m : mMem} {x0 : Nat} {x1 : Int32} {x2 : Int32} {x3 : Int32} {x4 : Int32} {x5 : Int32} {x6 : Option Value} {x7 : Option Value} {y0 : Int32} (hT : mWT m) (hOx0 : m.1 x0 = some (.inr 8) ∧ x0 ≠ 0)
    (h : (((¬ y0 = 1) → (mEs d 219 b g219 (111, [some (.ref x0), some (.int x1), some (.int 0), some (.int x3), some (.int x4), some (.int x5), some (.int 0), x7], [], m) Q)) ∧ (¬ (¬ y0 = 1) → (mEs d 219 b g219 (111, [some (.ref x0), some (.int x1), some (.int 1), some (.int x3), some (.int x4), some (.int x5), some (.int 0), x7], [], m) Q)))) :
    mEs d 219 b g219 (98, [some (.ref x0), some (.int x1), some (.int x2), some (.int x3), some (.int x4), some (.int x5), x6, x7], [.int y0], m) Q := by
  refine e_iconst (pc' := 99) (v := 1) (dAt D219 54 rfl) rfl (by decide) ?_
  refine e_icmp_ne (t := 106) (pc' := 102) (dAt D219 55 rfl) ⟨by decide, by decide⟩ rfl (fun c => ?_) (fun c => ?_)
  · replace h := h.1 c
    refine e_iconst (pc' := 107) (v := 0) (dAt D219 58 rfl) rfl (by decide) ?_
    refine e_istore_n (pc' := 108) (dAt D219 59 rfl) rfl (Nat.le_of_ble_eq_true rfl) rfl ?_
    refine e_iconst (pc' := 109) (v := 0) (dAt D219 60 rfl) rfl (by decide) ?_
    refine e_istore (pc' := 111) (dAt D219 61 rfl) rfl (Nat.le_of_ble_eq_true rfl) rfl ?_
    exact h
  · replace h := h.2 c
    refine e_iconst (pc' := 103) (v := 1) (dAt D219 56 rfl) rfl (by decide) ?_
    refine e_goto (t := 107) (dAt D219 57 rfl) ⟨by decide, by decide⟩ ?_
    refine e_istore_n (pc' := 108) (dAt D219 59 rfl) rfl (Nat.le_of_ble_eq_true rfl) rfl ?_
    refine e_iconst (pc' := 109) (v := 0) (dAt D219 60 rfl) rfl (by decide) ?_
    refine e_istore (pc' := 111) (dAt D219 61 rfl) rfl (Nat.le_of_ble_eq_true rfl) rfl ?_
    exact h
-- PlaceNetsModel.kinds.()I, from 111
set_option maxRecDepth 20000 in
theorem bk219_111 {d b : Nat} {Q : Option Value → mMem → Prop} {m : mMem} {x0 : Nat} {x1 : Int32} {x2 : Int32} {x3 : Int32} {x4 : Int32} {x5 : Int32} {x6 : Int32} {x7 : Option Value} (hT : mWT m) (hOx0 : m.1 x0 = some (.inr 8) ∧ x0 ≠ 0)
    (h : (((x4 ≤ x6) → (∀ (v_1 : Int32), v_1 = (x4 + 1) → mEs d 219 b g219 (23, [some (.ref x0), some (.int x1), some (.int x2), some (.int x3), some (.int v_1), some (.int x5), some (.int x6), x7], [], m) Q)) ∧ (¬ (x4 ≤ x6) → (mEv d 214 [.ref x0, .ref (64 * x0 + 2), .int x6] m (fun r m' => mEs d 219 b g219 (128, [some (.ref x0), some (.int x1), some (.int x2), some (.int x3), some (.int x4), some (.int x5), some (.int x6), x7], r.toList ++ [], m') Q))))) :
    mEs d 219 b g219 (111, [some (.ref x0), some (.int x1), some (.int x2), some (.int x3), some (.int x4), some (.int x5), some (.int x6), x7], [], m) Q := by
  refine e_iload (pc' := 113) (dAt D219 62 rfl) rfl rfl ?_
  refine e_iload (pc' := 115) (dAt D219 63 rfl) rfl rfl ?_
  refine e_icmp_ge (t := 161) (pc' := 118) (dAt D219 64 rfl) ⟨by decide, by decide⟩ rfl (fun c => ?_) (fun c => ?_)
  · replace h := h.1 c
    replace h := h _ rfl
    refine e_iinc (pc' := 164) (dAt D219 86 rfl) rfl rfl (Nat.le_of_ble_eq_true rfl) (congrArg (_ + ·) (show Int32.ofInt (1) = (1 : Int32) by decide)) rfl ?_
    refine e_goto (t := 23) (dAt D219 87 rfl) ⟨by decide, by decide⟩ ?_
    exact h
  · replace h := h.2 c
    refine e_aload_n (pc' := 119) (dAt D219 65 rfl) rfl rfl ?_
    refine e_aload_n (pc' := 120) (dAt D219 66 rfl) rfl rfl ?_
    refine e_getfield (pc' := 123) (dAt D219 67 rfl) rfl rfl hOx0 (hT.own hOx0 1 rfl) ?_
    refine e_iload (pc' := 125) (dAt D219 68 rfl) rfl rfl ?_
    exact e_call2 h (dAt D219 69 rfl) (hi0 rfl) rfl G214 (by decide) rfl (Nat.le_of_ble_eq_true rfl) (kV hOx0 rfl rfl) rfl rfl
-- PlaceNetsModel.kinds.()I, from 128
set_option maxRecDepth 20000 in
theorem bk219_128 {d b : Nat} {Q : Option Value → mMem → Prop} {m : mMem} {x0 : Nat} {x1 : Int32} {x2 : Int32} {x3 : Int32} {x4 : Int32} {x5 : Int32} {x6 : Int32} {x7 : Option Value} {y0 : Int32} (hT : mWT m) (hOx0 : m.1 x0 = some (.inr 8) ∧ x0 ≠ 0)
    (h : (((x3 = 0) → (∀ (v_1 : Int32), v_1 = (x6 + 1) → mEs d 219 b g219 (111, [some (.ref x0), some (.int x1), some (.int x2), some (.int 0), some (.int x4), some (.int x5), some (.int v_1), some (.int y0)], [], m) Q)) ∧ (¬ (x3 = 0) → ((((x5 &&& y0) = 0) → (∀ (v_2 : Int32), v_2 = (x6 + 1) → mEs d 219 b g219 (111, [some (.ref x0), some (.int x1), some (.int x2), some (.int 1), some (.int x4), some (.int x5), some (.int v_2), some (.int y0)], [], m) Q)) ∧ (¬ ((x5 &&& y0) = 0) → (((¬ x5 = y0) → (∀ (v_3 : Int32), v_3 = (x6 + 1) → mEs d 219 b g219 (111, [some (.ref x0), some (.int x1), some (.int x2), some (.int 0), some (.int x4), some (.int x5), some (.int v_3), some (.int y0)], [], m) Q)) ∧ (¬ (¬ x5 = y0) → (∀ (v_4 : Int32), v_4 = (x6 + 1) → mEs d 219 b g219 (111, [some (.ref x0), some (.int x1), some (.int x2), some (.int 1), some (.int x4), some (.int x5), some (.int v_4), some (.int y0)], [], m) Q)))))))) :
    mEs d 219 b g219 (128, [some (.ref x0), some (.int x1), some (.int x2), some (.int x3), some (.int x4), some (.int x5), some (.int x6), x7], [.int y0], m) Q := by
  refine e_istore (pc' := 130) (dAt D219 70 rfl) rfl (Nat.le_of_ble_eq_true rfl) rfl ?_
  refine e_iload_n (pc' := 131) (dAt D219 71 rfl) rfl rfl ?_
  refine e_if_eq (t := 153) (pc' := 134) (dAt D219 72 rfl) ⟨by decide, by decide⟩ rfl (fun c => ?_) (fun c => ?_)
  · replace h := h.1 c
    refine e_iconst (pc' := 154) (v := 0) (dAt D219 82 rfl) rfl (by decide) ?_
    refine e_istore_n (pc' := 155) (dAt D219 83 rfl) rfl (Nat.le_of_ble_eq_true rfl) rfl ?_
    replace h := h _ rfl
    refine e_iinc (pc' := 158) (dAt D219 84 rfl) rfl rfl (Nat.le_of_ble_eq_true rfl) (congrArg (_ + ·) (show Int32.ofInt (1) = (1 : Int32) by decide)) rfl ?_
    refine e_goto (t := 111) (dAt D219 85 rfl) ⟨by decide, by decide⟩ ?_
    exact h
  · replace h := h.2 c
    refine e_iload (pc' := 136) (dAt D219 73 rfl) rfl rfl ?_
    refine e_iload (pc' := 138) (dAt D219 74 rfl) rfl rfl ?_
    refine e_iand (pc' := 139) (dAt D219 75 rfl) rfl ?_
    refine e_if_eq (t := 149) (pc' := 142) (dAt D219 76 rfl) ⟨by decide, by decide⟩ rfl (fun c => ?_) (fun c => ?_)
    · replace h := h.1 c
      refine e_iconst (pc' := 150) (v := 1) (dAt D219 80 rfl) rfl (by decide) ?_
      refine e_goto (t := 154) (dAt D219 81 rfl) ⟨by decide, by decide⟩ ?_
      refine e_istore_n (pc' := 155) (dAt D219 83 rfl) rfl (Nat.le_of_ble_eq_true rfl) rfl ?_
      replace h := h _ rfl
      refine e_iinc (pc' := 158) (dAt D219 84 rfl) rfl rfl (Nat.le_of_ble_eq_true rfl) (congrArg (_ + ·) (show Int32.ofInt (1) = (1 : Int32) by decide)) rfl ?_
      refine e_goto (t := 111) (dAt D219 85 rfl) ⟨by decide, by decide⟩ ?_
      exact h
    · replace h := h.2 c
      refine e_iload (pc' := 144) (dAt D219 77 rfl) rfl rfl ?_
      refine e_iload (pc' := 146) (dAt D219 78 rfl) rfl rfl ?_
      refine e_icmp_ne (t := 153) (pc' := 149) (dAt D219 79 rfl) ⟨by decide, by decide⟩ rfl (fun c => ?_) (fun c => ?_)
      · replace h := h.1 c
        refine e_iconst (pc' := 154) (v := 0) (dAt D219 82 rfl) rfl (by decide) ?_
        refine e_istore_n (pc' := 155) (dAt D219 83 rfl) rfl (Nat.le_of_ble_eq_true rfl) rfl ?_
        replace h := h _ rfl
        refine e_iinc (pc' := 158) (dAt D219 84 rfl) rfl rfl (Nat.le_of_ble_eq_true rfl) (congrArg (_ + ·) (show Int32.ofInt (1) = (1 : Int32) by decide)) rfl ?_
        refine e_goto (t := 111) (dAt D219 85 rfl) ⟨by decide, by decide⟩ ?_
        exact h
      · replace h := h.2 c
        refine e_iconst (pc' := 150) (v := 1) (dAt D219 80 rfl) rfl (by decide) ?_
        refine e_goto (t := 154) (dAt D219 81 rfl) ⟨by decide, by decide⟩ ?_
        refine e_istore_n (pc' := 155) (dAt D219 83 rfl) rfl (Nat.le_of_ble_eq_true rfl) rfl ?_
        replace h := h _ rfl
        refine e_iinc (pc' := 158) (dAt D219 84 rfl) rfl rfl (Nat.le_of_ble_eq_true rfl) (congrArg (_ + ·) (show Int32.ofInt (1) = (1 : Int32) by decide)) rfl ?_
        refine e_goto (t := 111) (dAt D219 85 rfl) ⟨by decide, by decide⟩ ?_
        exact h
-- PlaceNetsModel.kinds.()I, from 171
set_option maxRecDepth 20000 in
theorem bk219_171 {d b : Nat} {Q : Option Value → mMem → Prop} {m : mMem} {x0 : Nat} {x1 : Int32} {x2 : Int32} {x3 : Int32} {x4 : Int32} {x5 : Option Value} {x6 : Option Value} {x7 : Option Value} {y0 : Int32} (hT : mWT m) (hOx0 : m.1 x0 = some (.inr 8) ∧ x0 ≠ 0)
    (h : (((y0 = 0) → (((x1 = 0) → (((x2 = 0) → (mEv d 222 [.ref x0] m (fun r m' => mEs d 219 b g219 (203, [some (.ref x0), some (.int x1), some (.int x2), some (.int x3), some (.int x4), x5, x6, x7], r.toList ++ [.int ((0 + 0) + 0)], m') Q))) ∧ (¬ (x2 = 0) → (mEv d 222 [.ref x0] m (fun r m' => mEs d 219 b g219 (203, [some (.ref x0), some (.int x1), some (.int x2), some (.int x3), some (.int x4), x5, x6, x7], r.toList ++ [.int ((0 + 0) + 4)], m') Q))))) ∧ (¬ (x1 = 0) → (((x2 = 0) → (mEv d 222 [.ref x0] m (fun r m' => mEs d 219 b g219 (203, [some (.ref x0), some (.int x1), some (.int x2), some (.int x3), some (.int x4), x5, x6, x7], r.toList ++ [.int ((0 + 2) + 0)], m') Q))) ∧ (¬ (x2 = 0) → (mEv d 222 [.ref x0] m (fun r m' => mEs d 219 b g219 (203, [some (.ref x0), some (.int x1), some (.int x2), some (.int x3), some (.int x4), x5, x6, x7], r.toList ++ [.int ((0 + 2) + 4)], m') Q))))))) ∧ (¬ (y0 = 0) → (((x1 = 0) → (((x2 = 0) → (mEv d 222 [.ref x0] m (fun r m' => mEs d 219 b g219 (203, [some (.ref x0), some (.int x1), some (.int x2), some (.int x3), some (.int x4), x5, x6, x7], r.toList ++ [.int ((1 + 0) + 0)], m') Q))) ∧ (¬ (x2 = 0) → (mEv d 222 [.ref x0] m (fun r m' => mEs d 219 b g219 (203, [some (.ref x0), some (.int x1), some (.int x2), some (.int x3), some (.int x4), x5, x6, x7], r.toList ++ [.int ((1 + 0) + 4)], m') Q))))) ∧ (¬ (x1 = 0) → (((x2 = 0) → (mEv d 222 [.ref x0] m (fun r m' => mEs d 219 b g219 (203, [some (.ref x0), some (.int x1), some (.int x2), some (.int x3), some (.int x4), x5, x6, x7], r.toList ++ [.int ((1 + 2) + 0)], m') Q))) ∧ (¬ (x2 = 0) → (mEv d 222 [.ref x0] m (fun r m' => mEs d 219 b g219 (203, [some (.ref x0), some (.int x1), some (.int x2), some (.int x3), some (.int x4), x5, x6, x7], r.toList ++ [.int ((1 + 2) + 4)], m') Q))))))))) :
    mEs d 219 b g219 (171, [some (.ref x0), some (.int x1), some (.int x2), some (.int x3), some (.int x4), x5, x6, x7], [.int y0], m) Q := by
  refine e_if_eq (t := 178) (pc' := 174) (dAt D219 90 rfl) ⟨by decide, by decide⟩ rfl (fun c => ?_) (fun c => ?_)
  · replace h := h.1 c
    refine e_iconst (pc' := 179) (v := 0) (dAt D219 93 rfl) rfl (by decide) ?_
    refine e_iload_n (pc' := 180) (dAt D219 94 rfl) rfl rfl ?_
    refine e_if_eq (t := 187) (pc' := 183) (dAt D219 95 rfl) ⟨by decide, by decide⟩ rfl (fun c => ?_) (fun c => ?_)
    · replace h := h.1 c
      refine e_iconst (pc' := 188) (v := 0) (dAt D219 98 rfl) rfl (by decide) ?_
      refine e_iadd (pc' := 189) (dAt D219 99 rfl) rfl ?_
      refine e_iload_n (pc' := 190) (dAt D219 100 rfl) rfl rfl ?_
      refine e_if_eq (t := 197) (pc' := 193) (dAt D219 101 rfl) ⟨by decide, by decide⟩ rfl (fun c => ?_) (fun c => ?_)
      · replace h := h.1 c
        refine e_iconst (pc' := 198) (v := 0) (dAt D219 104 rfl) rfl (by decide) ?_
        refine e_iadd (pc' := 199) (dAt D219 105 rfl) rfl ?_
        refine e_aload_n (pc' := 200) (dAt D219 106 rfl) rfl rfl ?_
        exact e_call2 h (dAt D219 107 rfl) (hi0 rfl) rfl G222 (by decide) rfl (Nat.le_of_ble_eq_true rfl) (kV hOx0 rfl rfl) rfl rfl
      · replace h := h.2 c
        refine e_iconst (pc' := 194) (v := 4) (dAt D219 102 rfl) rfl (by decide) ?_
        refine e_goto (t := 198) (dAt D219 103 rfl) ⟨by decide, by decide⟩ ?_
        refine e_iadd (pc' := 199) (dAt D219 105 rfl) rfl ?_
        refine e_aload_n (pc' := 200) (dAt D219 106 rfl) rfl rfl ?_
        exact e_call2 h (dAt D219 107 rfl) (hi0 rfl) rfl G222 (by decide) rfl (Nat.le_of_ble_eq_true rfl) (kV hOx0 rfl rfl) rfl rfl
    · replace h := h.2 c
      refine e_iconst (pc' := 184) (v := 2) (dAt D219 96 rfl) rfl (by decide) ?_
      refine e_goto (t := 188) (dAt D219 97 rfl) ⟨by decide, by decide⟩ ?_
      refine e_iadd (pc' := 189) (dAt D219 99 rfl) rfl ?_
      refine e_iload_n (pc' := 190) (dAt D219 100 rfl) rfl rfl ?_
      refine e_if_eq (t := 197) (pc' := 193) (dAt D219 101 rfl) ⟨by decide, by decide⟩ rfl (fun c => ?_) (fun c => ?_)
      · replace h := h.1 c
        refine e_iconst (pc' := 198) (v := 0) (dAt D219 104 rfl) rfl (by decide) ?_
        refine e_iadd (pc' := 199) (dAt D219 105 rfl) rfl ?_
        refine e_aload_n (pc' := 200) (dAt D219 106 rfl) rfl rfl ?_
        exact e_call2 h (dAt D219 107 rfl) (hi0 rfl) rfl G222 (by decide) rfl (Nat.le_of_ble_eq_true rfl) (kV hOx0 rfl rfl) rfl rfl
      · replace h := h.2 c
        refine e_iconst (pc' := 194) (v := 4) (dAt D219 102 rfl) rfl (by decide) ?_
        refine e_goto (t := 198) (dAt D219 103 rfl) ⟨by decide, by decide⟩ ?_
        refine e_iadd (pc' := 199) (dAt D219 105 rfl) rfl ?_
        refine e_aload_n (pc' := 200) (dAt D219 106 rfl) rfl rfl ?_
        exact e_call2 h (dAt D219 107 rfl) (hi0 rfl) rfl G222 (by decide) rfl (Nat.le_of_ble_eq_true rfl) (kV hOx0 rfl rfl) rfl rfl
  · replace h := h.2 c
    refine e_iconst (pc' := 175) (v := 1) (dAt D219 91 rfl) rfl (by decide) ?_
    refine e_goto (t := 179) (dAt D219 92 rfl) ⟨by decide, by decide⟩ ?_
    refine e_iload_n (pc' := 180) (dAt D219 94 rfl) rfl rfl ?_
    refine e_if_eq (t := 187) (pc' := 183) (dAt D219 95 rfl) ⟨by decide, by decide⟩ rfl (fun c => ?_) (fun c => ?_)
    · replace h := h.1 c
      refine e_iconst (pc' := 188) (v := 0) (dAt D219 98 rfl) rfl (by decide) ?_
      refine e_iadd (pc' := 189) (dAt D219 99 rfl) rfl ?_
      refine e_iload_n (pc' := 190) (dAt D219 100 rfl) rfl rfl ?_
      refine e_if_eq (t := 197) (pc' := 193) (dAt D219 101 rfl) ⟨by decide, by decide⟩ rfl (fun c => ?_) (fun c => ?_)
      · replace h := h.1 c
        refine e_iconst (pc' := 198) (v := 0) (dAt D219 104 rfl) rfl (by decide) ?_
        refine e_iadd (pc' := 199) (dAt D219 105 rfl) rfl ?_
        refine e_aload_n (pc' := 200) (dAt D219 106 rfl) rfl rfl ?_
        exact e_call2 h (dAt D219 107 rfl) (hi0 rfl) rfl G222 (by decide) rfl (Nat.le_of_ble_eq_true rfl) (kV hOx0 rfl rfl) rfl rfl
      · replace h := h.2 c
        refine e_iconst (pc' := 194) (v := 4) (dAt D219 102 rfl) rfl (by decide) ?_
        refine e_goto (t := 198) (dAt D219 103 rfl) ⟨by decide, by decide⟩ ?_
        refine e_iadd (pc' := 199) (dAt D219 105 rfl) rfl ?_
        refine e_aload_n (pc' := 200) (dAt D219 106 rfl) rfl rfl ?_
        exact e_call2 h (dAt D219 107 rfl) (hi0 rfl) rfl G222 (by decide) rfl (Nat.le_of_ble_eq_true rfl) (kV hOx0 rfl rfl) rfl rfl
    · replace h := h.2 c
      refine e_iconst (pc' := 184) (v := 2) (dAt D219 96 rfl) rfl (by decide) ?_
      refine e_goto (t := 188) (dAt D219 97 rfl) ⟨by decide, by decide⟩ ?_
      refine e_iadd (pc' := 189) (dAt D219 99 rfl) rfl ?_
      refine e_iload_n (pc' := 190) (dAt D219 100 rfl) rfl rfl ?_
      refine e_if_eq (t := 197) (pc' := 193) (dAt D219 101 rfl) ⟨by decide, by decide⟩ rfl (fun c => ?_) (fun c => ?_)
      · replace h := h.1 c
        refine e_iconst (pc' := 198) (v := 0) (dAt D219 104 rfl) rfl (by decide) ?_
        refine e_iadd (pc' := 199) (dAt D219 105 rfl) rfl ?_
        refine e_aload_n (pc' := 200) (dAt D219 106 rfl) rfl rfl ?_
        exact e_call2 h (dAt D219 107 rfl) (hi0 rfl) rfl G222 (by decide) rfl (Nat.le_of_ble_eq_true rfl) (kV hOx0 rfl rfl) rfl rfl
      · replace h := h.2 c
        refine e_iconst (pc' := 194) (v := 4) (dAt D219 102 rfl) rfl (by decide) ?_
        refine e_goto (t := 198) (dAt D219 103 rfl) ⟨by decide, by decide⟩ ?_
        refine e_iadd (pc' := 199) (dAt D219 105 rfl) rfl ?_
        refine e_aload_n (pc' := 200) (dAt D219 106 rfl) rfl rfl ?_
        exact e_call2 h (dAt D219 107 rfl) (hi0 rfl) rfl G222 (by decide) rfl (Nat.le_of_ble_eq_true rfl) (kV hOx0 rfl rfl) rfl rfl
-- PlaceNetsModel.kinds.()I, from 203
set_option maxRecDepth 20000 in
theorem bk219_203 {d b : Nat} {Q : Option Value → mMem → Prop} {m : mMem} {x0 : Nat} {x1 : Int32} {x2 : Int32} {x3 : Int32} {x4 : Int32} {x5 : Option Value} {x6 : Option Value} {x7 : Option Value} {y0 : Int32} {y1 : Int32} (hT : mWT m) (hOx0 : m.1 x0 = some (.inr 8) ∧ x0 ≠ 0)
    (h : (((y1 = 0) → (((x3 = 0) → (Q (some (.int ((y0 + 0) + 0))) m)) ∧ (¬ (x3 = 0) → (Q (some (.int ((y0 + 0) + 16))) m)))) ∧ (¬ (y1 = 0) → (((x3 = 0) → (Q (some (.int ((y0 + 8) + 0))) m)) ∧ (¬ (x3 = 0) → (Q (some (.int ((y0 + 8) + 16))) m)))))) :
    mEs d 219 b g219 (203, [some (.ref x0), some (.int x1), some (.int x2), some (.int x3), some (.int x4), x5, x6, x7], [.int y1, .int y0], m) Q := by
  refine e_if_eq (t := 211) (pc' := 206) (dAt D219 108 rfl) ⟨by decide, by decide⟩ rfl (fun c => ?_) (fun c => ?_)
  · replace h := h.1 c
    refine e_iconst (pc' := 212) (v := 0) (dAt D219 111 rfl) rfl (by decide) ?_
    refine e_iadd (pc' := 213) (dAt D219 112 rfl) rfl ?_
    refine e_iload_n (pc' := 214) (dAt D219 113 rfl) rfl rfl ?_
    refine e_if_eq (t := 222) (pc' := 217) (dAt D219 114 rfl) ⟨by decide, by decide⟩ rfl (fun c => ?_) (fun c => ?_)
    · replace h := h.1 c
      refine e_iconst (pc' := 223) (v := 0) (dAt D219 117 rfl) rfl (by decide) ?_
      refine e_iadd (pc' := 224) (dAt D219 118 rfl) rfl ?_
      exact e_ireturn (dAt D219 119 rfl) rfl ⟨rfl, fun e => by cases e⟩ h
    · replace h := h.2 c
      refine e_bipush (pc' := 219) (v := 16) (dAt D219 115 rfl) rfl (by decide) ?_
      refine e_goto (t := 223) (dAt D219 116 rfl) ⟨by decide, by decide⟩ ?_
      refine e_iadd (pc' := 224) (dAt D219 118 rfl) rfl ?_
      exact e_ireturn (dAt D219 119 rfl) rfl ⟨rfl, fun e => by cases e⟩ h
  · replace h := h.2 c
    refine e_bipush (pc' := 208) (v := 8) (dAt D219 109 rfl) rfl (by decide) ?_
    refine e_goto (t := 212) (dAt D219 110 rfl) ⟨by decide, by decide⟩ ?_
    refine e_iadd (pc' := 213) (dAt D219 112 rfl) rfl ?_
    refine e_iload_n (pc' := 214) (dAt D219 113 rfl) rfl rfl ?_
    refine e_if_eq (t := 222) (pc' := 217) (dAt D219 114 rfl) ⟨by decide, by decide⟩ rfl (fun c => ?_) (fun c => ?_)
    · replace h := h.1 c
      refine e_iconst (pc' := 223) (v := 0) (dAt D219 117 rfl) rfl (by decide) ?_
      refine e_iadd (pc' := 224) (dAt D219 118 rfl) rfl ?_
      exact e_ireturn (dAt D219 119 rfl) rfl ⟨rfl, fun e => by cases e⟩ h
    · replace h := h.2 c
      refine e_bipush (pc' := 219) (v := 16) (dAt D219 115 rfl) rfl (by decide) ?_
      refine e_goto (t := 223) (dAt D219 116 rfl) ⟨by decide, by decide⟩ ?_
      refine e_iadd (pc' := 224) (dAt D219 118 rfl) rfl ?_
      exact e_ireturn (dAt D219 119 rfl) rfl ⟨rfl, fun e => by cases e⟩ h
-- PlaceNetsModel.sumOf.([II)I, from 0
set_option maxRecDepth 20000 in
theorem bk220_0 {d b : Nat} {Q : Option Value → mMem → Prop} {m : mMem} {x0 : Nat} {x1 : Nat} {lx1 : Nat} {x2 : Int32} {x3 : Option Value} {x4 : Option Value} (hT : mWT m) (hOx0 : m.1 x0 = some (.inr 8) ∧ x0 ≠ 0) (hAx1 : m.1 x1 = some (.inl (.int, lx1)) ∧ x1 ≠ 0)
    (h : mEs d 220 b g220 (5, [some (.ref x0), some (.ref x1), some (.int x2), some (.int 0), some (.int 0)], [], m) Q) :
    mEs d 220 b g220 (0, [some (.ref x0), some (.ref x1), some (.int x2), x3, x4], [], m) Q := by
  refine e_iconst (pc' := 1) (v := 0) (dAt D220 0 rfl) rfl (by decide) ?_
  refine e_istore_n (pc' := 2) (dAt D220 1 rfl) rfl (Nat.le_of_ble_eq_true rfl) rfl ?_
  refine e_iconst (pc' := 3) (v := 0) (dAt D220 2 rfl) rfl (by decide) ?_
  refine e_istore (pc' := 5) (dAt D220 3 rfl) rfl (Nat.le_of_ble_eq_true rfl) rfl ?_
  exact h
-- PlaceNetsModel.sumOf.([II)I, from 5
set_option maxRecDepth 20000 in
theorem bk220_5 {d b : Nat} {Q : Option Value → mMem → Prop} {m : mMem} {x0 : Nat} {x1 : Nat} {lx1 : Nat} {x2 : Int32} {x3 : Int32} {x4 : Int32} (hT : mWT m) (hOx0 : m.1 x0 = some (.inr 8) ∧ x0 ≠ 0) (hAx1 : m.1 x1 = some (.inl (.int, lx1)) ∧ x1 ≠ 0)
    (h : ((((iF m x0 6) ≤ x4) → (Q (some (.int x3)) m)) ∧ (¬ ((iF m x0 6) ≤ x4) → ((mIn ((10 * x2) + x4) lx1 = true) ∧ (∀ (v_1 : Int32), v_1 = (x3 + (m.2.2.1 x1 ((10 * x2) + x4).toNatClampNeg)) → ∀ (v_2 : Int32), v_2 = (x4 + 1) → mEs d 220 b g220 (5, [some (.ref x0), some (.ref x1), some (.int x2), some (.int v_1), some (.int v_2)], [], m) Q))))) :
    mEs d 220 b g220 (5, [some (.ref x0), some (.ref x1), some (.int x2), some (.int x3), some (.int x4)], [], m) Q := by
  refine e_iload (pc' := 7) (dAt D220 4 rfl) rfl rfl ?_
  refine e_aload_n (pc' := 8) (dAt D220 5 rfl) rfl rfl ?_
  refine e_getfield (pc' := 11) (dAt D220 6 rfl) rfl rfl hOx0 (hT.int hOx0 6 (by decide)) ?_
  refine e_icmp_ge (t := 32) (pc' := 14) (dAt D220 7 rfl) ⟨by decide, by decide⟩ rfl (fun c => ?_) (fun c => ?_)
  · replace h := h.1 c
    refine e_iload_n (pc' := 33) (dAt D220 20 rfl) rfl rfl ?_
    exact e_ireturn (dAt D220 21 rfl) rfl ⟨rfl, fun e => by cases e⟩ h
  · replace h := h.2 c
    refine e_iload_n (pc' := 15) (dAt D220 8 rfl) rfl rfl ?_
    refine e_aload_n (pc' := 16) (dAt D220 9 rfl) rfl rfl ?_
    refine e_bipush (pc' := 18) (v := 10) (dAt D220 10 rfl) rfl (by decide) ?_
    refine e_iload_n (pc' := 19) (dAt D220 11 rfl) rfl rfl ?_
    refine e_imul (pc' := 20) (dAt D220 12 rfl) rfl ?_
    refine e_iload (pc' := 22) (dAt D220 13 rfl) rfl rfl ?_
    refine e_iadd (pc' := 23) (dAt D220 14 rfl) rfl ?_
    obtain ⟨f1, h⟩ := h
    refine e_iaload (pc' := 24) (dAt D220 15 rfl) rfl hAx1.1 (Or.inl hAx1.2) f1 rfl ?_
    refine e_iadd (pc' := 25) (dAt D220 16 rfl) rfl ?_
    replace h := h _ rfl
    refine e_istore_n (pc' := 26) (dAt D220 17 rfl) rfl (Nat.le_of_ble_eq_true rfl) rfl ?_
    replace h := h _ rfl
    refine e_iinc (pc' := 29) (dAt D220 18 rfl) rfl rfl (Nat.le_of_ble_eq_true rfl) (congrArg (_ + ·) (show Int32.ofInt (1) = (1 : Int32) by decide)) rfl ?_
    refine e_goto (t := 5) (dAt D220 19 rfl) ⟨by decide, by decide⟩ ?_
    exact h
-- PlaceNetsModel.isPlain.()Z, from 0
set_option maxRecDepth 20000 in
theorem bk221_0 {d b : Nat} {Q : Option Value → mMem → Prop} {m : mMem} {x0 : Nat} {x1 : Option Value} {x2 : Option Value} (hT : mWT m) (hOx0 : m.1 x0 = some (.inr 8) ∧ x0 ≠ 0)
    (h : mEs d 221 b g221 (4, [some (.ref x0), some (.int 1), some (.int 0)], [], m) Q) :
    mEs d 221 b g221 (0, [some (.ref x0), x1, x2], [], m) Q := by
  refine e_iconst (pc' := 1) (v := 1) (dAt D221 0 rfl) rfl (by decide) ?_
  refine e_istore_n (pc' := 2) (dAt D221 1 rfl) rfl (Nat.le_of_ble_eq_true rfl) rfl ?_
  refine e_iconst (pc' := 3) (v := 0) (dAt D221 2 rfl) rfl (by decide) ?_
  refine e_istore_n (pc' := 4) (dAt D221 3 rfl) rfl (Nat.le_of_ble_eq_true rfl) rfl ?_
  exact h
-- PlaceNetsModel.isPlain.()Z, from 4
set_option maxRecDepth 20000 in
theorem bk221_4 {d b : Nat} {Q : Option Value → mMem → Prop} {m : mMem} {x0 : Nat} {x1 : Int32} {x2 : Int32} (hT : mWT m) (hOx0 : m.1 x0 = some (.inr 8) ∧ x0 ≠ 0)
    (h : ((((10 * (iF m x0 7)) ≤ x2) → ((x1 = 0 ∨ x1 = 1) ∧ (Q (some (.int x1)) m))) ∧ (¬ ((10 * (iF m x0 7)) ≤ x2) → (((x1 = 0) → (∀ (v_1 : Int32), v_1 = (x2 + 1) → mEs d 221 b g221 (4, [some (.ref x0), some (.int 0), some (.int v_1)], [], m) Q)) ∧ (¬ (x1 = 0) → ((mIn x2 100 = true) ∧ (((2 ≤ (m.2.2.1 (64 * x0 + 2) x2.toNatClampNeg)) → (∀ (v_2 : Int32), v_2 = (x2 + 1) → mEs d 221 b g221 (4, [some (.ref x0), some (.int 0), some (.int v_2)], [], m) Q)) ∧ (¬ (2 ≤ (m.2.2.1 (64 * x0 + 2) x2.toNatClampNeg)) → ((mIn x2 100 = true) ∧ (((2 ≤ (m.2.2.1 (64 * x0 + 3) x2.toNatClampNeg)) → (∀ (v_3 : Int32), v_3 = (x2 + 1) → mEs d 221 b g221 (4, [some (.ref x0), some (.int 0), some (.int v_3)], [], m) Q)) ∧ (¬ (2 ≤ (m.2.2.1 (64 * x0 + 3) x2.toNatClampNeg)) → (∀ (v_4 : Int32), v_4 = (x2 + 1) → mEs d 221 b g221 (4, [some (.ref x0), some (.int 1), some (.int v_4)], [], m) Q)))))))))))) :
    mEs d 221 b g221 (4, [some (.ref x0), some (.int x1), some (.int x2)], [], m) Q := by
  refine e_iload_n (pc' := 5) (dAt D221 4 rfl) rfl rfl ?_
  refine e_bipush (pc' := 7) (v := 10) (dAt D221 5 rfl) rfl (by decide) ?_
  refine e_aload_n (pc' := 8) (dAt D221 6 rfl) rfl rfl ?_
  refine e_getfield (pc' := 11) (dAt D221 7 rfl) rfl rfl hOx0 (hT.int hOx0 7 (by decide)) ?_
  refine e_imul (pc' := 12) (dAt D221 8 rfl) rfl ?_
  refine e_icmp_ge (t := 51) (pc' := 15) (dAt D221 9 rfl) ⟨by decide, by decide⟩ rfl (fun c => ?_) (fun c => ?_)
  · replace h := h.1 c
    refine e_iload_n (pc' := 52) (dAt D221 30 rfl) rfl rfl ?_
    obtain ⟨f1, h⟩ := h
    exact e_ireturn (dAt D221 31 rfl) rfl ⟨nb01 f1, fun e => by cases e⟩ h
  · replace h := h.2 c
    refine e_iload_n (pc' := 16) (dAt D221 10 rfl) rfl rfl ?_
    refine e_if_eq (t := 43) (pc' := 19) (dAt D221 11 rfl) ⟨by decide, by decide⟩ rfl (fun c => ?_) (fun c => ?_)
    · replace h := h.1 c
      refine e_iconst (pc' := 44) (v := 0) (dAt D221 26 rfl) rfl (by decide) ?_
      refine e_istore_n (pc' := 45) (dAt D221 27 rfl) rfl (Nat.le_of_ble_eq_true rfl) rfl ?_
      replace h := h _ rfl
      refine e_iinc (pc' := 48) (dAt D221 28 rfl) rfl rfl (Nat.le_of_ble_eq_true rfl) (congrArg (_ + ·) (show Int32.ofInt (1) = (1 : Int32) by decide)) rfl ?_
      refine e_goto (t := 4) (dAt D221 29 rfl) ⟨by decide, by decide⟩ ?_
      exact h
    · replace h := h.2 c
      refine e_aload_n (pc' := 20) (dAt D221 12 rfl) rfl rfl ?_
      refine e_getfield (pc' := 23) (dAt D221 13 rfl) rfl rfl hOx0 (hT.own hOx0 1 rfl) ?_
      refine e_iload_n (pc' := 24) (dAt D221 14 rfl) rfl rfl ?_
      obtain ⟨f1, h⟩ := h
      refine e_iaload (pc' := 25) (dAt D221 15 rfl) rfl (hT.arr hOx0 1 rfl (by decide)).1 (Or.inl (hT.arr hOx0 1 rfl (by decide)).2) f1 rfl ?_
      refine e_iconst (pc' := 26) (v := 2) (dAt D221 16 rfl) rfl (by decide) ?_
      refine e_icmp_ge (t := 43) (pc' := 29) (dAt D221 17 rfl) ⟨by decide, by decide⟩ rfl (fun c => ?_) (fun c => ?_)
      · replace h := h.1 c
        refine e_iconst (pc' := 44) (v := 0) (dAt D221 26 rfl) rfl (by decide) ?_
        refine e_istore_n (pc' := 45) (dAt D221 27 rfl) rfl (Nat.le_of_ble_eq_true rfl) rfl ?_
        replace h := h _ rfl
        refine e_iinc (pc' := 48) (dAt D221 28 rfl) rfl rfl (Nat.le_of_ble_eq_true rfl) (congrArg (_ + ·) (show Int32.ofInt (1) = (1 : Int32) by decide)) rfl ?_
        refine e_goto (t := 4) (dAt D221 29 rfl) ⟨by decide, by decide⟩ ?_
        exact h
      · replace h := h.2 c
        refine e_aload_n (pc' := 30) (dAt D221 18 rfl) rfl rfl ?_
        refine e_getfield (pc' := 33) (dAt D221 19 rfl) rfl rfl hOx0 (hT.own hOx0 2 rfl) ?_
        refine e_iload_n (pc' := 34) (dAt D221 20 rfl) rfl rfl ?_
        obtain ⟨f1, h⟩ := h
        refine e_iaload (pc' := 35) (dAt D221 21 rfl) rfl (hT.arr hOx0 2 rfl (by decide)).1 (Or.inl (hT.arr hOx0 2 rfl (by decide)).2) f1 rfl ?_
        refine e_iconst (pc' := 36) (v := 2) (dAt D221 22 rfl) rfl (by decide) ?_
        refine e_icmp_ge (t := 43) (pc' := 39) (dAt D221 23 rfl) ⟨by decide, by decide⟩ rfl (fun c => ?_) (fun c => ?_)
        · replace h := h.1 c
          refine e_iconst (pc' := 44) (v := 0) (dAt D221 26 rfl) rfl (by decide) ?_
          refine e_istore_n (pc' := 45) (dAt D221 27 rfl) rfl (Nat.le_of_ble_eq_true rfl) rfl ?_
          replace h := h _ rfl
          refine e_iinc (pc' := 48) (dAt D221 28 rfl) rfl rfl (Nat.le_of_ble_eq_true rfl) (congrArg (_ + ·) (show Int32.ofInt (1) = (1 : Int32) by decide)) rfl ?_
          refine e_goto (t := 4) (dAt D221 29 rfl) ⟨by decide, by decide⟩ ?_
          exact h
        · replace h := h.2 c
          refine e_iconst (pc' := 40) (v := 1) (dAt D221 24 rfl) rfl (by decide) ?_
          refine e_goto (t := 44) (dAt D221 25 rfl) ⟨by decide, by decide⟩ ?_
          refine e_istore_n (pc' := 45) (dAt D221 27 rfl) rfl (Nat.le_of_ble_eq_true rfl) rfl ?_
          replace h := h _ rfl
          refine e_iinc (pc' := 48) (dAt D221 28 rfl) rfl rfl (Nat.le_of_ble_eq_true rfl) (congrArg (_ + ·) (show Int32.ofInt (1) = (1 : Int32) by decide)) rfl ?_
          refine e_goto (t := 4) (dAt D221 29 rfl) ⟨by decide, by decide⟩ ?_
          exact h
-- PlaceNetsModel.isCircuit.()Z, from 0
set_option maxRecDepth 20000 in
theorem bk222_0 {d b : Nat} {Q : Option Value → mMem → Prop} {m : mMem} {x0 : Nat} {x1 : Option Value} {x2 : Option Value} {x3 : Option Value} {x4 : Option Value} {x5 : Option Value} (hT : mWT m) (hOx0 : m.1 x0 = some (.inr 8) ∧ x0 ≠ 0)
    (h : mEs d 222 b g222 (4, [some (.ref x0), some (.int 1), some (.int 0), x3, x4, x5], [], m) Q) :
    mEs d 222 b g222 (0, [some (.ref x0), x1, x2, x3, x4, x5], [], m) Q := by
  refine e_iconst (pc' := 1) (v := 1) (dAt D222 0 rfl) rfl (by decide) ?_
  refine e_istore_n (pc' := 2) (dAt D222 1 rfl) rfl (Nat.le_of_ble_eq_true rfl) rfl ?_
  refine e_iconst (pc' := 3) (v := 0) (dAt D222 2 rfl) rfl (by decide) ?_
  refine e_istore_n (pc' := 4) (dAt D222 3 rfl) rfl (Nat.le_of_ble_eq_true rfl) rfl ?_
  exact h
-- PlaceNetsModel.isCircuit.()Z, from 4
set_option maxRecDepth 20000 in
theorem bk222_4 {d b : Nat} {Q : Option Value → mMem → Prop} {m : mMem} {x0 : Nat} {x1 : Int32} {x2 : Int32} {x3 : Option Value} {x4 : Option Value} {x5 : Option Value} (hT : mWT m) (hOx0 : m.1 x0 = some (.inr 8) ∧ x0 ≠ 0)
    (h : ((((iF m x0 6) ≤ x2) → ((x1 = 0 ∨ x1 = 1) ∧ (Q (some (.int x1)) m))) ∧ (¬ ((iF m x0 6) ≤ x2) → (mEs d 222 b g222 (20, [some (.ref x0), some (.int x1), some (.int x2), some (.int 0), some (.int 0), some (.int 0)], [], m) Q)))) :
    mEs d 222 b g222 (4, [some (.ref x0), some (.int x1), some (.int x2), x3, x4, x5], [], m) Q := by
  refine e_iload_n (pc' := 5) (dAt D222 4 rfl) rfl rfl ?_
  refine e_aload_n (pc' := 6) (dAt D222 5 rfl) rfl rfl ?_
  refine e_getfield (pc' := 9) (dAt D222 6 rfl) rfl rfl hOx0 (hT.int hOx0 6 (by decide)) ?_
  refine e_icmp_ge (t := 100) (pc' := 12) (dAt D222 7 rfl) ⟨by decide, by decide⟩ rfl (fun c => ?_) (fun c => ?_)
  · replace h := h.1 c
    refine e_iload_n (pc' := 101) (dAt D222 56 rfl) rfl rfl ?_
    obtain ⟨f1, h⟩ := h
    exact e_ireturn (dAt D222 57 rfl) rfl ⟨nb01 f1, fun e => by cases e⟩ h
  · replace h := h.2 c
    refine e_iconst (pc' := 13) (v := 0) (dAt D222 8 rfl) rfl (by decide) ?_
    refine e_istore_n (pc' := 14) (dAt D222 9 rfl) rfl (Nat.le_of_ble_eq_true rfl) rfl ?_
    refine e_iconst (pc' := 15) (v := 0) (dAt D222 10 rfl) rfl (by decide) ?_
    refine e_istore (pc' := 17) (dAt D222 11 rfl) rfl (Nat.le_of_ble_eq_true rfl) rfl ?_
    refine e_iconst (pc' := 18) (v := 0) (dAt D222 12 rfl) rfl (by decide) ?_
    refine e_istore (pc' := 20) (dAt D222 13 rfl) rfl (Nat.le_of_ble_eq_true rfl) rfl ?_
    exact h
-- PlaceNetsModel.isCircuit.()Z, from 20
set_option maxRecDepth 20000 in
theorem bk222_20 {d b : Nat} {Q : Option Value → mMem → Prop} {m : mMem} {x0 : Nat} {x1 : Int32} {x2 : Int32} {x3 : Int32} {x4 : Int32} {x5 : Int32} (hT : mWT m) (hOx0 : m.1 x0 = some (.inr 8) ∧ x0 ≠ 0)
    (h : ((((iF m x0 7) ≤ x5) → (((x1 = 0) → (∀ (v_1 : Int32), v_1 = (x2 + 1) → mEs d 222 b g222 (4, [some (.ref x0), some (.int 0), some (.int v_1), some (.int x3), some (.int x4), some (.int x5)], [], m) Q)) ∧ (¬ (x1 = 0) → (((2 ≤ x3) → (∀ (v_2 : Int32), v_2 = (x2 + 1) → mEs d 222 b g222 (4, [some (.ref x0), some (.int 0), some (.int v_2), some (.int x3), some (.int x4), some (.int x5)], [], m) Q)) ∧ (¬ (2 ≤ x3) → (((2 ≤ x4) → (∀ (v_3 : Int32), v_3 = (x2 + 1) → mEs d 222 b g222 (4, [some (.ref x0), some (.int 0), some (.int v_3), some (.int x3), some (.int x4), some (.int x5)], [], m) Q)) ∧ (¬ (2 ≤ x4) → (∀ (v_4 : Int32), v_4 = (x2 + 1) → mEs d 222 b g222 (4, [some (.ref x0), some (.int 1), some (.int v_4), some (.int x3), some (.int x4), some (.int x5)], [], m) Q)))))))) ∧ (¬ ((iF m x0 7) ≤ x5) → (mEv d 162 [.ref x0, .int x5, .int x2] m (fun r m' => mEs d 222 b g222 (37, [some (.ref x0), some (.int x1), some (.int x2), some (.int x3), some (.int x4), some (.int x5)], r.toList ++ [.int x3], m') Q))))) :
    mEs d 222 b g222 (20, [some (.ref x0), some (.int x1), some (.int x2), some (.int x3), some (.int x4), some (.int x5)], [], m) Q := by
  refine e_iload (pc' := 22) (dAt D222 14 rfl) rfl rfl ?_
  refine e_aload_n (pc' := 23) (dAt D222 15 rfl) rfl rfl ?_
  refine e_getfield (pc' := 26) (dAt D222 16 rfl) rfl rfl hOx0 (hT.int hOx0 7 (by decide)) ?_
  refine e_icmp_ge (t := 73) (pc' := 29) (dAt D222 17 rfl) ⟨by decide, by decide⟩ rfl (fun c => ?_) (fun c => ?_)
  · replace h := h.1 c
    refine e_iload_n (pc' := 74) (dAt D222 42 rfl) rfl rfl ?_
    refine e_if_eq (t := 92) (pc' := 77) (dAt D222 43 rfl) ⟨by decide, by decide⟩ rfl (fun c => ?_) (fun c => ?_)
    · replace h := h.1 c
      refine e_iconst (pc' := 93) (v := 0) (dAt D222 52 rfl) rfl (by decide) ?_
      refine e_istore_n (pc' := 94) (dAt D222 53 rfl) rfl (Nat.le_of_ble_eq_true rfl) rfl ?_
      replace h := h _ rfl
      refine e_iinc (pc' := 97) (dAt D222 54 rfl) rfl rfl (Nat.le_of_ble_eq_true rfl) (congrArg (_ + ·) (show Int32.ofInt (1) = (1 : Int32) by decide)) rfl ?_
      refine e_goto (t := 4) (dAt D222 55 rfl) ⟨by decide, by decide⟩ ?_
      exact h
    · replace h := h.2 c
      refine e_iload_n (pc' := 78) (dAt D222 44 rfl) rfl rfl ?_
      refine e_iconst (pc' := 79) (v := 2) (dAt D222 45 rfl) rfl (by decide) ?_
      refine e_icmp_ge (t := 92) (pc' := 82) (dAt D222 46 rfl) ⟨by decide, by decide⟩ rfl (fun c => ?_) (fun c => ?_)
      · replace h := h.1 c
        refine e_iconst (pc' := 93) (v := 0) (dAt D222 52 rfl) rfl (by decide) ?_
        refine e_istore_n (pc' := 94) (dAt D222 53 rfl) rfl (Nat.le_of_ble_eq_true rfl) rfl ?_
        replace h := h _ rfl
        refine e_iinc (pc' := 97) (dAt D222 54 rfl) rfl rfl (Nat.le_of_ble_eq_true rfl) (congrArg (_ + ·) (show Int32.ofInt (1) = (1 : Int32) by decide)) rfl ?_
        refine e_goto (t := 4) (dAt D222 55 rfl) ⟨by decide, by decide⟩ ?_
        exact h
      · replace h := h.2 c
        refine e_iload (pc' := 84) (dAt D222 47 rfl) rfl rfl ?_
        refine e_iconst (pc' := 85) (v := 2) (dAt D222 48 rfl) rfl (by decide) ?_
        refine e_icmp_ge (t := 92) (pc' := 88) (dAt D222 49 rfl) ⟨by decide, by decide⟩ rfl (fun c => ?_) (fun c => ?_)
        · replace h := h.1 c
          refine e_iconst (pc' := 93) (v := 0) (dAt D222 52 rfl) rfl (by decide) ?_
          refine e_istore_n (pc' := 94) (dAt D222 53 rfl) rfl (Nat.le_of_ble_eq_true rfl) rfl ?_
          replace h := h _ rfl
          refine e_iinc (pc' := 97) (dAt D222 54 rfl) rfl rfl (Nat.le_of_ble_eq_true rfl) (congrArg (_ + ·) (show Int32.ofInt (1) = (1 : Int32) by decide)) rfl ?_
          refine e_goto (t := 4) (dAt D222 55 rfl) ⟨by decide, by decide⟩ ?_
          exact h
        · replace h := h.2 c
          refine e_iconst (pc' := 89) (v := 1) (dAt D222 50 rfl) rfl (by decide) ?_
          refine e_goto (t := 93) (dAt D222 51 rfl) ⟨by decide, by decide⟩ ?_
          refine e_istore_n (pc' := 94) (dAt D222 53 rfl) rfl (Nat.le_of_ble_eq_true rfl) rfl ?_
          replace h := h _ rfl
          refine e_iinc (pc' := 97) (dAt D222 54 rfl) rfl rfl (Nat.le_of_ble_eq_true rfl) (congrArg (_ + ·) (show Int32.ofInt (1) = (1 : Int32) by decide)) rfl ?_
          refine e_goto (t := 4) (dAt D222 55 rfl) ⟨by decide, by decide⟩ ?_
          exact h
  · replace h := h.2 c
    refine e_iload_n (pc' := 30) (dAt D222 18 rfl) rfl rfl ?_
    refine e_aload_n (pc' := 31) (dAt D222 19 rfl) rfl rfl ?_
    refine e_iload (pc' := 33) (dAt D222 20 rfl) rfl rfl ?_
    refine e_iload_n (pc' := 34) (dAt D222 21 rfl) rfl rfl ?_
    exact e_call2 h (dAt D222 22 rfl) (hi0 rfl) rfl G162 (by decide) rfl (Nat.le_of_ble_eq_true rfl) (kV hOx0 rfl rfl) rfl rfl
