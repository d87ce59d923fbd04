-- PlaceNetsModel.layNode.(II)V, from 0
set_option maxRecDepth 20000 in
theorem bk181_0 {d b : Nat} {Q : Option Value → mMem → Prop} {m : mMem} {x0 : Nat} {x1 : Int32} {x2 : Int32} {x3 : Option Value} {x4 : Option Value} {x5 : Option Value} (hT : mWT m) (hOx0 : m.1 x0 = some (.inr 8) ∧ x0 ≠ 0)
    (h : ∀ (v_1 : Int32), v_1 = (10 * (iF m x0 26)) → mEs d 181 b g181 (11, [some (.ref x0), some (.int x1), some (.int x2), some (.int v_1), some (.int 0), x5], [], m) Q) :
    mEs d 181 b g181 (0, [some (.ref x0), some (.int x1), some (.int x2), x3, x4, x5], [], m) Q := by
  refine e_bipush (pc' := 2) (v := 10) (dAt D181 0 rfl) rfl (by decide) ?_
  refine e_aload_n (pc' := 3) (dAt D181 1 rfl) rfl rfl ?_
  refine e_getfield (pc' := 6) (dAt D181 2 rfl) rfl rfl hOx0 (hT.int hOx0 26 (by decide)) ?_
  refine e_imul (pc' := 7) (dAt D181 3 rfl) rfl ?_
  replace h := h _ rfl
  refine e_istore_n (pc' := 8) (dAt D181 4 rfl) rfl (Nat.le_of_ble_eq_true rfl) rfl ?_
  refine e_iconst (pc' := 9) (v := 0) (dAt D181 5 rfl) rfl (by decide) ?_
  refine e_istore (pc' := 11) (dAt D181 6 rfl) rfl (Nat.le_of_ble_eq_true rfl) rfl ?_
  exact h
-- PlaceNetsModel.layNode.(II)V, from 11
set_option maxRecDepth 20000 in
theorem bk181_11 {d b : Nat} {Q : Option Value → mMem → Prop} {m : mMem} {x0 : Nat} {x1 : Int32} {x2 : Int32} {x3 : Int32} {x4 : Int32} {x5 : Option Value} (hT : mWT m) (hOx0 : m.1 x0 = some (.inr 8) ∧ x0 ≠ 0)
    (h : (((10 ≤ x4) → ((mIn (iF m x0 26) 201 = true) ∧ (∀ (m_1 : mMem), m_1 = (mSetI m (64 * x0 + 12) (upd (m.2.2.1 (64 * x0 + 12)) (iF m x0 26).toNatClampNeg x1)) → (mIn (iF m_1 x0 26) 201 = true) ∧ (∀ (m_3 : mMem), m_3 = (mSetI m_1 (64 * x0 + 13) (upd (m_1.2.2.1 (64 * x0 + 13)) (iF m_1 x0 26).toNatClampNeg x2)) → mEs d 181 b g181 (120, [some (.ref x0), some (.int x1), some (.int x2), some (.int x3), some (.int x1), x5], [], m_3) Q)))) ∧ (¬ (10 ≤ x4) → (((¬ x1 = ((-1))) → ((mIn ((10 * x1) + x4) 2010 = true) ∧ (∀ (v_5 : Int32), v_5 = (m.2.2.1 (64 * x0 + 11) ((10 * x1) + x4).toNatClampNeg) → (((x1 = ((-1))) → ((mIn (x3 + x4) 2010 = true) ∧ (∀ (m_6 : mMem), m_6 = (mSetI m (64 * x0 + 11) (upd (m.2.2.1 (64 * x0 + 11)) (x3 + x4).toNatClampNeg v_5)) → ∀ (v_8 : Int32), v_8 = (x4 + 1) → mEs d 181 b g181 (11, [some (.ref x0), some (.int x1), some (.int x2), some (.int x3), some (.int v_8), some (.int v_5)], [], m_6) Q))) ∧ (¬ (x1 = ((-1))) → (((¬ v_5 = 1000000) → (mEv d 162 [.ref x0, .int x2, .int x4] m (fun r m' => mEs d 181 b g181 (81, [some (.ref x0), some (.int x1), some (.int x2), some (.int x3), some (.int x4), some (.int v_5)], r.toList ++ [.int v_5, .int (x3 + x4), .ref (64 * x0 + 11)], m') Q))) ∧ (¬ (¬ v_5 = 1000000) → ((mIn (x3 + x4) 2010 = true) ∧ (∀ (m_9 : mMem), m_9 = (mSetI m (64 * x0 + 11) (upd (m.2.2.1 (64 * x0 + 11)) (x3 + x4).toNatClampNeg v_5)) → ∀ (v_11 : Int32), v_11 = (x4 + 1) → mEs d 181 b g181 (11, [some (.ref x0), some (.int x1), some (.int x2), some (.int x3), some (.int v_11), some (.int v_5)], [], m_9) Q))))))))) ∧ (¬ (¬ x1 = ((-1))) → ((mIn x4 10 = true) ∧ (∀ (v_12 : Int32), v_12 = (m.2.2.1 (64 * x0 + 4) x4.toNatClampNeg) → (((x1 = ((-1))) → ((mIn (x3 + x4) 2010 = true) ∧ (∀ (m_13 : mMem), m_13 = (mSetI m (64 * x0 + 11) (upd (m.2.2.1 (64 * x0 + 11)) (x3 + x4).toNatClampNeg v_12)) → ∀ (v_15 : Int32), v_15 = (x4 + 1) → mEs d 181 b g181 (11, [some (.ref x0), some (.int x1), some (.int x2), some (.int x3), some (.int v_15), some (.int v_12)], [], m_13) Q))) ∧ (¬ (x1 = ((-1))) → (((¬ v_12 = 1000000) → (mEv d 162 [.ref x0, .int x2, .int x4] m (fun r m' => mEs d 181 b g181 (81, [some (.ref x0), some (.int x1), some (.int x2), some (.int x3), some (.int x4), some (.int v_12)], r.toList ++ [.int v_12, .int (x3 + x4), .ref (64 * x0 + 11)], m') Q))) ∧ (¬ (¬ v_12 = 1000000) → ((mIn (x3 + x4) 2010 = true) ∧ (∀ (m_16 : mMem), m_16 = (mSetI m (64 * x0 + 11) (upd (m.2.2.1 (64 * x0 + 11)) (x3 + x4).toNatClampNeg v_12)) → ∀ (v_18 : Int32), v_18 = (x4 + 1) → mEs d 181 b g181 (11, [some (.ref x0), some (.int x1), some (.int x2), some (.int x3), some (.int v_18), some (.int v_12)], [], m_16) Q))))))))))))) :
    mEs d 181 b g181 (11, [some (.ref x0), some (.int x1), some (.int x2), some (.int x3), some (.int x4), x5], [], m) Q := by
  refine e_iload (pc' := 13) (dAt D181 7 rfl) rfl rfl ?_
  refine e_bipush (pc' := 15) (v := 10) (dAt D181 8 rfl) rfl (by decide) ?_
  refine e_icmp_ge (t := 97) (pc' := 18) (dAt D181 9 rfl) ⟨by decide, by decide⟩ rfl (fun c => ?_) (fun c => ?_)
  · replace h := h.1 c
    refine e_aload_n (pc' := 98) (dAt D181 54 rfl) rfl rfl ?_
    refine e_getfield (pc' := 101) (dAt D181 55 rfl) rfl rfl hOx0 (hT.own hOx0 11 rfl) ?_
    refine e_aload_n (pc' := 102) (dAt D181 56 rfl) rfl rfl ?_
    refine e_getfield (pc' := 105) (dAt D181 57 rfl) rfl rfl hOx0 (hT.int hOx0 26 (by decide)) ?_
    refine e_iload_n (pc' := 106) (dAt D181 58 rfl) rfl rfl ?_
    obtain ⟨f1, h⟩ := h
    replace h := h _ rfl
    refine e_iastore (pc' := 107) (dAt D181 59 rfl) rfl (hT.arr hOx0 11 rfl (by decide)).1 (hT.arr hOx0 11 rfl (by decide)).2 f1 (nar_i _) ?_
    refine wtI hT (fun hT_2 => ?_)
    refine e_aload_n (pc' := 108) (dAt D181 60 rfl) rfl rfl ?_
    refine e_getfield (pc' := 111) (dAt D181 61 rfl) rfl rfl hOx0 (hT_2.own hOx0 12 rfl) ?_
    refine e_aload_n (pc' := 112) (dAt D181 62 rfl) rfl rfl ?_
    refine e_getfield (pc' := 115) (dAt D181 63 rfl) rfl rfl hOx0 (hT_2.int hOx0 26 (by decide)) ?_
    refine e_iload_n (pc' := 116) (dAt D181 64 rfl) rfl rfl ?_
    obtain ⟨f1, h⟩ := h
    replace h := h _ rfl
    refine e_iastore (pc' := 117) (dAt D181 65 rfl) rfl (hT_2.arr hOx0 12 rfl (by decide)).1 (hT_2.arr hOx0 12 rfl (by decide)).2 f1 (nar_i _) ?_
    refine wtI hT_2 (fun hT_4 => ?_)
    refine e_iload_n (pc' := 118) (dAt D181 66 rfl) rfl rfl ?_
    refine e_istore (pc' := 120) (dAt D181 67 rfl) rfl (Nat.le_of_ble_eq_true rfl) rfl ?_
    exact h
  · replace h := h.2 c
    refine e_iload_n (pc' := 19) (dAt D181 10 rfl) rfl rfl ?_
    refine e_iconst (pc' := 20) (v := (-1)) (dAt D181 11 rfl) rfl (by decide) ?_
    refine e_icmp_ne (t := 33) (pc' := 23) (dAt D181 12 rfl) ⟨by decide, by decide⟩ rfl (fun c => ?_) (fun c => ?_)
    · replace h := h.1 c
      refine e_aload_n (pc' := 34) (dAt D181 18 rfl) rfl rfl ?_
      refine e_getfield (pc' := 37) (dAt D181 19 rfl) rfl rfl hOx0 (hT.own hOx0 10 rfl) ?_
      refine e_bipush (pc' := 39) (v := 10) (dAt D181 20 rfl) rfl (by decide) ?_
      refine e_iload_n (pc' := 40) (dAt D181 21 rfl) rfl rfl ?_
      refine e_imul (pc' := 41) (dAt D181 22 rfl) rfl ?_
      refine e_iload (pc' := 43) (dAt D181 23 rfl) rfl rfl ?_
      refine e_iadd (pc' := 44) (dAt D181 24 rfl) rfl ?_
      obtain ⟨f1, h⟩ := h
      refine e_iaload (pc' := 45) (dAt D181 25 rfl) rfl (hT.arr hOx0 10 rfl (by decide)).1 (Or.inl (hT.arr hOx0 10 rfl (by decide)).2) f1 rfl ?_
      replace h := h _ rfl
      refine e_istore (pc' := 47) (dAt D181 26 rfl) rfl (Nat.le_of_ble_eq_true rfl) rfl ?_
      refine e_aload_n (pc' := 48) (dAt D181 27 rfl) rfl rfl ?_
      refine e_getfield (pc' := 51) (dAt D181 28 rfl) rfl rfl hOx0 (hT.own hOx0 10 rfl) ?_
      refine e_iload_n (pc' := 52) (dAt D181 29 rfl) rfl rfl ?_
      refine e_iload (pc' := 54) (dAt D181 30 rfl) rfl rfl ?_
      refine e_iadd (pc' := 55) (dAt D181 31 rfl) rfl ?_
      refine e_iload_n (pc' := 56) (dAt D181 32 rfl) rfl rfl ?_
      refine e_iconst (pc' := 57) (v := (-1)) (dAt D181 33 rfl) rfl (by decide) ?_
      refine e_icmp_eq (t := 67) (pc' := 60) (dAt D181 34 rfl) ⟨by decide, by decide⟩ rfl (fun c => ?_) (fun c => ?_)
      · replace h := h.1 c
        refine e_iload (pc' := 69) (dAt D181 38 rfl) rfl rfl ?_
        refine e_goto (t := 90) (dAt D181 39 rfl) ⟨by decide, by decide⟩ ?_
        obtain ⟨f1, h⟩ := h
        replace h := h _ rfl
        refine e_iastore (pc' := 91) (dAt D181 51 rfl) rfl (hT.arr hOx0 10 rfl (by decide)).1 (hT.arr hOx0 10 rfl (by decide)).2 f1 (nar_i _) ?_
        refine wtI hT (fun hT_7 => ?_)
        replace h := h _ rfl
        refine e_iinc (pc' := 94) (dAt D181 52 rfl) rfl rfl (Nat.le_of_ble_eq_true rfl) (congrArg (_ + ·) (show Int32.ofInt (1) = (1 : Int32) by decide)) rfl ?_
        refine e_goto (t := 11) (dAt D181 53 rfl) ⟨by decide, by decide⟩ ?_
        exact h
      · replace h := h.2 c
        refine e_iload (pc' := 62) (dAt D181 35 rfl) rfl rfl ?_
        refine e_ldc (pc' := 64) (dAt D181 36 rfl) rfl rfl ?_
        refine e_icmp_ne (t := 72) (pc' := 67) (dAt D181 37 rfl) ⟨by decide, by decide⟩ rfl (fun c => ?_) (fun c => ?_)
        · replace h := h.1 c
          refine e_iload (pc' := 74) (dAt D181 40 rfl) rfl rfl ?_
          refine e_aload_n (pc' := 75) (dAt D181 41 rfl) rfl rfl ?_
          refine e_iload_n (pc' := 76) (dAt D181 42 rfl) rfl rfl ?_
          refine e_iload (pc' := 78) (dAt D181 43 rfl) rfl rfl ?_
          exact e_call2 h (dAt D181 44 rfl) (hi0 rfl) rfl G162 (by decide) rfl (Nat.le_of_ble_eq_true rfl) (kV hOx0 rfl rfl) rfl rfl
        · replace h := h.2 c
          refine e_iload (pc' := 69) (dAt D181 38 rfl) rfl rfl ?_
          refine e_goto (t := 90) (dAt D181 39 rfl) ⟨by decide, by decide⟩ ?_
          obtain ⟨f1, h⟩ := h
          replace h := h _ rfl
          refine e_iastore (pc' := 91) (dAt D181 51 rfl) rfl (hT.arr hOx0 10 rfl (by decide)).1 (hT.arr hOx0 10 rfl (by decide)).2 f1 (nar_i _) ?_
          refine wtI hT (fun hT_10 => ?_)
          replace h := h _ rfl
          refine e_iinc (pc' := 94) (dAt D181 52 rfl) rfl rfl (Nat.le_of_ble_eq_true rfl) (congrArg (_ + ·) (show Int32.ofInt (1) = (1 : Int32) by decide)) rfl ?_
          refine e_goto (t := 11) (dAt D181 53 rfl) ⟨by decide, by decide⟩ ?_
          exact h
    · replace h := h.2 c
      refine e_aload_n (pc' := 24) (dAt D181 13 rfl) rfl rfl ?_
      refine e_getfield (pc' := 27) (dAt D181 14 rfl) rfl rfl hOx0 (hT.own hOx0 3 rfl) ?_
      refine e_iload (pc' := 29) (dAt D181 15 rfl) rfl rfl ?_
      obtain ⟨f1, h⟩ := h
      refine e_iaload (pc' := 30) (dAt D181 16 rfl) rfl (hT.arr hOx0 3 rfl (by decide)).1 (Or.inl (hT.arr hOx0 3 rfl (by decide)).2) f1 rfl ?_
      refine e_goto (t := 45) (dAt D181 17 rfl) ⟨by decide, by decide⟩ ?_
      replace h := h _ rfl
      refine e_istore (pc' := 47) (dAt D181 26 rfl) rfl (Nat.le_of_ble_eq_true rfl) rfl ?_
      refine e_aload_n (pc' := 48) (dAt D181 27 rfl) rfl rfl ?_
      refine e_getfield (pc' := 51) (dAt D181 28 rfl) rfl rfl hOx0 (hT.own hOx0 10 rfl) ?_
      refine e_iload_n (pc' := 52) (dAt D181 29 rfl) rfl rfl ?_
      refine e_iload (pc' := 54) (dAt D181 30 rfl) rfl rfl ?_
      refine e_iadd (pc' := 55) (dAt D181 31 rfl) rfl ?_
      refine e_iload_n (pc' := 56) (dAt D181 32 rfl) rfl rfl ?_
      refine e_iconst (pc' := 57) (v := (-1)) (dAt D181 33 rfl) rfl (by decide) ?_
      refine e_icmp_eq (t := 67) (pc' := 60) (dAt D181 34 rfl) ⟨by decide, by decide⟩ rfl (fun c => ?_) (fun c => ?_)
      · replace h := h.1 c
        refine e_iload (pc' := 69) (dAt D181 38 rfl) rfl rfl ?_
        refine e_goto (t := 90) (dAt D181 39 rfl) ⟨by decide, by decide⟩ ?_
        obtain ⟨f1, h⟩ := h
        replace h := h _ rfl
        refine e_iastore (pc' := 91) (dAt D181 51 rfl) rfl (hT.arr hOx0 10 rfl (by decide)).1 (hT.arr hOx0 10 rfl (by decide)).2 f1 (nar_i _) ?_
        refine wtI hT (fun hT_14 => ?_)
        replace h := h _ rfl
        refine e_iinc (pc' := 94) (dAt D181 52 rfl) rfl rfl (Nat.le_of_ble_eq_true rfl) (congrArg (_ + ·) (show Int32.ofInt (1) = (1 : Int32) by decide)) rfl ?_
        refine e_goto (t := 11) (dAt D181 53 rfl) ⟨by decide, by decide⟩ ?_
        exact h
      · replace h := h.2 c
        refine e_iload (pc' := 62) (dAt D181 35 rfl) rfl rfl ?_
        refine e_ldc (pc' := 64) (dAt D181 36 rfl) rfl rfl ?_
        refine e_icmp_ne (t := 72) (pc' := 67) (dAt D181 37 rfl) ⟨by decide, by decide⟩ rfl (fun c => ?_) (fun c => ?_)
        · replace h := h.1 c
          refine e_iload (pc' := 74) (dAt D181 40 rfl) rfl rfl ?_
          refine e_aload_n (pc' := 75) (dAt D181 41 rfl) rfl rfl ?_
          refine e_iload_n (pc' := 76) (dAt D181 42 rfl) rfl rfl ?_
          refine e_iload (pc' := 78) (dAt D181 43 rfl) rfl rfl ?_
          exact e_call2 h (dAt D181 44 rfl) (hi0 rfl) rfl G162 (by decide) rfl (Nat.le_of_ble_eq_true rfl) (kV hOx0 rfl rfl) rfl rfl
        · replace h := h.2 c
          refine e_iload (pc' := 69) (dAt D181 38 rfl) rfl rfl ?_
          refine e_goto (t := 90) (dAt D181 39 rfl) ⟨by decide, by decide⟩ ?_
          obtain ⟨f1, h⟩ := h
          replace h := h _ rfl
          refine e_iastore (pc' := 91) (dAt D181 51 rfl) rfl (hT.arr hOx0 10 rfl (by decide)).1 (hT.arr hOx0 10 rfl (by decide)).2 f1 (nar_i _) ?_
          refine wtI hT (fun hT_17 => ?_)
          replace h := h _ rfl
          refine e_iinc (pc' := 94) (dAt D181 52 rfl) rfl rfl (Nat.le_of_ble_eq_true rfl) (congrArg (_ + ·) (show Int32.ofInt (1) = (1 : Int32) by decide)) rfl ?_
          refine e_goto (t := 11) (dAt D181 53 rfl) ⟨by decide, by decide⟩ ?_
          exact h
-- PlaceNetsModel.layNode.(II)V, from 81
set_option maxRecDepth 20000 in
theorem bk181_81 {d b : Nat} {Q : Option Value → mMem → Prop} {m : mMem} {x0 : Nat} {x1 : Int32} {x2 : Int32} {x3 : Int32} {x4 : Int32} {x5 : Int32} {y0 : Nat} {ly0 : Nat} {y1 : Int32} {y2 : Int32} {y3 : Int32} (hT : mWT m) (hOx0 : m.1 x0 = some (.inr 8) ∧ x0 ≠ 0) (hAy0 : m.1 y0 = some (.inl (.int, ly0)) ∧ y0 ≠ 0)
    (h : mEv d 163 [.ref x0, .int x2, .int x4] m (fun r m' => mEs d 181 b g181 (89, [some (.ref x0), some (.int x1), some (.int x2), some (.int x3), some (.int x4), some (.int x5)], r.toList ++ [.int (y2 - y3), .int y1, .ref y0], m') Q)) :
    mEs d 181 b g181 (81, [some (.ref x0), some (.int x1), some (.int x2), some (.int x3), some (.int x4), some (.int x5)], [.int y3, .int y2, .int y1, .ref y0], m) Q := by
  refine e_isub (pc' := 82) (dAt D181 45 rfl) rfl ?_
  refine e_aload_n (pc' := 83) (dAt D181 46 rfl) rfl rfl ?_
  refine e_iload_n (pc' := 84) (dAt D181 47 rfl) rfl rfl ?_
  refine e_iload (pc' := 86) (dAt D181 48 rfl) rfl rfl ?_
  exact e_call2 h (dAt D181 49 rfl) (hi0 rfl) rfl G163 (by decide) rfl (Nat.le_of_ble_eq_true rfl) (kV hOx0 rfl rfl) rfl rfl
-- PlaceNetsModel.layNode.(II)V, from 89
set_option maxRecDepth 20000 in
theorem bk181_89 {d b : Nat} {Q : Option Value → mMem → Prop} {m : mMem} {x0 : Nat} {x1 : Int32} {x2 : Int32} {x3 : Int32} {x4 : Int32} {x5 : Int32} {y0 : Nat} {ly0 : Nat} {y1 : Int32} {y2 : Int32} {y3 : Int32} (hT : mWT m) (hOx0 : m.1 x0 = some (.inr 8) ∧ x0 ≠ 0) (hAy0 : m.1 y0 = some (.inl (.int, ly0)) ∧ y0 ≠ 0)
    (h : (mIn y1 ly0 = true) ∧ (∀ (m_1 : mMem), m_1 = (mSetI m y0 (upd (m.2.2.1 y0) y1.toNatClampNeg (y2 + y3))) → ∀ (v_3 : Int32), v_3 = (x4 + 1) → mEs d 181 b g181 (11, [some (.ref x0), some (.int x1), some (.int x2), some (.int x3), some (.int v_3), some (.int x5)], [], m_1) Q)) :
    mEs d 181 b g181 (89, [some (.ref x0), some (.int x1), some (.int x2), some (.int x3), some (.int x4), some (.int x5)], [.int y3, .int y2, .int y1, .ref y0], m) Q := by
  refine e_iadd (pc' := 90) (dAt D181 50 rfl) rfl ?_
  obtain ⟨f1, h⟩ := h
  replace h := h _ rfl
  refine e_iastore (pc' := 91) (dAt D181 51 rfl) rfl hAy0.1 hAy0.2 f1 (nar_i _) ?_
  refine wtI hT (fun hT_2 => ?_)
  replace h := h _ rfl
  refine e_iinc (pc' := 94) (dAt D181 52 rfl) rfl rfl (Nat.le_of_ble_eq_true rfl) (congrArg (_ + ·) (show Int32.ofInt (1) = (1 : Int32) by decide)) rfl ?_
  refine e_goto (t := 11) (dAt D181 53 rfl) ⟨by decide, by decide⟩ ?_
  exact h
-- PlaceNetsModel.layNode.(II)V, from 120
set_option maxRecDepth 20000 in
theorem bk181_120 {d b : Nat} {Q : Option Value → mMem → Prop} {m : mMem} {x0 : Nat} {x1 : Int32} {x2 : Int32} {x3 : Int32} {x4 : Int32} {x5 : Option Value} (hT : mWT m) (hOx0 : m.1 x0 = some (.inr 8) ∧ x0 ≠ 0)
    (h : (((x4 = ((-1))) → (∀ (m_1 : mMem), m_1 = (mSetF m x0 26 (.int ((iF m x0 26) + 1))) → Q none m_1)) ∧ (¬ (x4 = ((-1))) → (mEv d 182 [.ref x0, .int x4, .int x3] m (fun r m' => mEs d 181 b g181 (133, [some (.ref x0), some (.int x1), some (.int x2), some (.int x3), some (.int x4), x5], r.toList ++ [], m') Q))))) :
    mEs d 181 b g181 (120, [some (.ref x0), some (.int x1), some (.int x2), some (.int x3), some (.int x4), x5], [], m) Q := by
  refine e_iload (pc' := 122) (dAt D181 68 rfl) rfl rfl ?_
  refine e_iconst (pc' := 123) (v := (-1)) (dAt D181 69 rfl) rfl (by decide) ?_
  refine e_icmp_eq (t := 145) (pc' := 126) (dAt D181 70 rfl) ⟨by decide, by decide⟩ rfl (fun c => ?_) (fun c => ?_)
  · replace h := h.1 c
    refine e_aload_n (pc' := 146) (dAt D181 81 rfl) rfl rfl ?_
    refine e_dup (pc' := 147) (dAt D181 82 rfl) rfl rfl ?_
    refine e_getfield (pc' := 150) (dAt D181 83 rfl) rfl rfl hOx0 (hT.int hOx0 26 (by decide)) ?_
    refine e_iconst (pc' := 151) (v := 1) (dAt D181 84 rfl) rfl (by decide) ?_
    refine e_iadd (pc' := 152) (dAt D181 85 rfl) rfl ?_
    replace h := h _ rfl
    refine e_putfield (pc' := 155) (dAt D181 86 rfl) rfl rfl hOx0 rfl rfl (fun e => by cases e) ?_
    refine wtF hT hOx0 (by decide) (fun hT_2 => ?_)
    exact e_return (dAt D181 87 rfl) rfl h
  · replace h := h.2 c
    refine e_aload_n (pc' := 127) (dAt D181 71 rfl) rfl rfl ?_
    refine e_iload (pc' := 129) (dAt D181 72 rfl) rfl rfl ?_
    refine e_iload_n (pc' := 130) (dAt D181 73 rfl) rfl rfl ?_
    exact e_call2 h (dAt D181 74 rfl) (hi0 rfl) rfl G182 (by decide) rfl (Nat.le_of_ble_eq_true rfl) (kV hOx0 rfl rfl) rfl rfl
-- PlaceNetsModel.layNode.(II)V, from 133
set_option maxRecDepth 20000 in
theorem bk181_133 {d b : Nat} {Q : Option Value → mMem → Prop} {m : mMem} {x0 : Nat} {x1 : Int32} {x2 : Int32} {x3 : Int32} {x4 : Int32} {x5 : Option Value} (hT : mWT m) (hOx0 : m.1 x0 = some (.inr 8) ∧ x0 ≠ 0)
    (h : (mIn x4 201 = true) ∧ (∀ (v_1 : Int32), v_1 = (m.2.2.1 (64 * x0 + 12) x4.toNatClampNeg) → mEs d 181 b g181 (120, [some (.ref x0), some (.int x1), some (.int x2), some (.int x3), some (.int v_1), x5], [], m) Q)) :
    mEs d 181 b g181 (133, [some (.ref x0), some (.int x1), some (.int x2), some (.int x3), some (.int x4), x5], [], m) Q := by
  refine e_aload_n (pc' := 134) (dAt D181 75 rfl) rfl rfl ?_
  refine e_getfield (pc' := 137) (dAt D181 76 rfl) rfl rfl hOx0 (hT.own hOx0 11 rfl) ?_
  refine e_iload (pc' := 139) (dAt D181 77 rfl) rfl rfl ?_
  obtain ⟨f1, h⟩ := h
  refine e_iaload (pc' := 140) (dAt D181 78 rfl) rfl (hT.arr hOx0 11 rfl (by decide)).1 (Or.inl (hT.arr hOx0 11 rfl (by decide)).2) f1 rfl ?_
  replace h := h _ rfl
  refine e_istore (pc' := 142) (dAt D181 79 rfl) rfl (Nat.le_of_ble_eq_true rfl) rfl ?_
  refine e_goto (t := 120) (dAt D181 80 rfl) ⟨by decide, by decide⟩ ?_
  exact h
-- PlaceNetsModel.grow.(II)V, from 0
set_option maxRecDepth 20000 in
theorem bk182_0 {d b : Nat} {Q : Option Value → mMem → Prop} {m : mMem} {x0 : Nat} {x1 : Int32} {x2 : Int32} {x3 : Option Value} {x4 : Option Value} (hT : mWT m) (hOx0 : m.1 x0 = some (.inr 8) ∧ x0 ≠ 0)
    (h : mEs d 182 b g182 (5, [some (.ref x0), some (.int x1), some (.int x2), some (.int 0), some (.int 0)], [], m) Q) :
    mEs d 182 b g182 (0, [some (.ref x0), some (.int x1), some (.int x2), x3, x4], [], m) Q := by
  refine e_iconst (pc' := 1) (v := 0) (dAt D182 0 rfl) rfl (by decide) ?_
  refine e_istore_n (pc' := 2) (dAt D182 1 rfl) rfl (Nat.le_of_ble_eq_true rfl) rfl ?_
  refine e_iconst (pc' := 3) (v := 0) (dAt D182 2 rfl) rfl (by decide) ?_
  refine e_istore (pc' := 5) (dAt D182 3 rfl) rfl (Nat.le_of_ble_eq_true rfl) rfl ?_
  exact h
-- PlaceNetsModel.grow.(II)V, from 5
set_option maxRecDepth 20000 in
theorem bk182_5 {d b : Nat} {Q : Option Value → mMem → Prop} {m : mMem} {x0 : Nat} {x1 : Int32} {x2 : Int32} {x3 : Int32} {x4 : Int32} (hT : mWT m) (hOx0 : m.1 x0 = some (.inr 8) ∧ x0 ≠ 0)
    (h : ((((iF m x0 6) ≤ x4) → (mEs d 182 b g182 (57, [some (.ref x0), some (.int x1), some (.int x2), some (.int x3), some (.int 0)], [], m) Q)) ∧ (¬ ((iF m x0 6) ≤ x4) → (((¬ x3 = 0) → (∀ (v_1 : Int32), v_1 = (x4 + 1) → mEs d 182 b g182 (5, [some (.ref x0), some (.int x1), some (.int x2), some (.int 1), some (.int v_1)], [], m) Q)) ∧ (¬ (¬ x3 = 0) → ((mIn ((10 * x1) + x4) 2010 = true) ∧ ((mIn (x2 + x4) 2010 = true) ∧ ((((m.2.2.1 (64 * x0 + 11) ((10 * x1) + x4).toNatClampNeg) ≤ (m.2.2.1 (64 * x0 + 11) (x2 + x4).toNatClampNeg)) → (∀ (v_2 : Int32), v_2 = (x4 + 1) → mEs d 182 b g182 (5, [some (.ref x0), some (.int x1), some (.int x2), some (.int 0), some (.int v_2)], [], m) Q)) ∧ (¬ ((m.2.2.1 (64 * x0 + 11) ((10 * x1) + x4).toNatClampNeg) ≤ (m.2.2.1 (64 * x0 + 11) (x2 + x4).toNatClampNeg)) → (∀ (v_3 : Int32), v_3 = (x4 + 1) → mEs d 182 b g182 (5, [some (.ref x0), some (.int x1), some (.int x2), some (.int 1), some (.int v_3)], [], m) Q)))))))))) :
    mEs d 182 b g182 (5, [some (.ref x0), some (.int x1), some (.int x2), some (.int x3), some (.int x4)], [], m) Q := by
  refine e_iload (pc' := 7) (dAt D182 4 rfl) rfl rfl ?_
  refine e_aload_n (pc' := 8) (dAt D182 5 rfl) rfl rfl ?_
  refine e_getfield (pc' := 11) (dAt D182 6 rfl) rfl rfl hOx0 (hT.int hOx0 6 (by decide)) ?_
  refine e_icmp_ge (t := 54) (pc' := 14) (dAt D182 7 rfl) ⟨by decide, by decide⟩ rfl (fun c => ?_) (fun c => ?_)
  · replace h := h.1 c
    refine e_iconst (pc' := 55) (v := 0) (dAt D182 31 rfl) rfl (by decide) ?_
    refine e_istore (pc' := 57) (dAt D182 32 rfl) rfl (Nat.le_of_ble_eq_true rfl) rfl ?_
    exact h
  · replace h := h.2 c
    refine e_iload_n (pc' := 15) (dAt D182 8 rfl) rfl rfl ?_
    refine e_if_ne (t := 42) (pc' := 18) (dAt D182 9 rfl) ⟨by decide, by decide⟩ rfl (fun c => ?_) (fun c => ?_)
    · replace h := h.1 c
      refine e_iconst (pc' := 43) (v := 1) (dAt D182 25 rfl) rfl (by decide) ?_
      refine e_goto (t := 47) (dAt D182 26 rfl) ⟨by decide, by decide⟩ ?_
      refine e_istore_n (pc' := 48) (dAt D182 28 rfl) rfl (Nat.le_of_ble_eq_true rfl) rfl ?_
      replace h := h _ rfl
      refine e_iinc (pc' := 51) (dAt D182 29 rfl) rfl rfl (Nat.le_of_ble_eq_true rfl) (congrArg (_ + ·) (show Int32.ofInt (1) = (1 : Int32) by decide)) rfl ?_
      refine e_goto (t := 5) (dAt D182 30 rfl) ⟨by decide, by decide⟩ ?_
      exact h
    · replace h := h.2 c
      refine e_aload_n (pc' := 19) (dAt D182 10 rfl) rfl rfl ?_
      refine e_getfield (pc' := 22) (dAt D182 11 rfl) rfl rfl hOx0 (hT.own hOx0 10 rfl) ?_
      refine e_bipush (pc' := 24) (v := 10) (dAt D182 12 rfl) rfl (by decide) ?_
      refine e_iload_n (pc' := 25) (dAt D182 13 rfl) rfl rfl ?_
      refine e_imul (pc' := 26) (dAt D182 14 rfl) rfl ?_
      refine e_iload (pc' := 28) (dAt D182 15 rfl) rfl rfl ?_
      refine e_iadd (pc' := 29) (dAt D182 16 rfl) rfl ?_
      obtain ⟨f1, h⟩ := h
      refine e_iaload (pc' := 30) (dAt D182 17 rfl) rfl (hT.arr hOx0 10 rfl (by decide)).1 (Or.inl (hT.arr hOx0 10 rfl (by decide)).2) f1 rfl ?_
      refine e_aload_n (pc' := 31) (dAt D182 18 rfl) rfl rfl ?_
      refine e_getfield (pc' := 34) (dAt D182 19 rfl) rfl rfl hOx0 (hT.own hOx0 10 rfl) ?_
      refine e_iload_n (pc' := 35) (dAt D182 20 rfl) rfl rfl ?_
      refine e_iload (pc' := 37) (dAt D182 21 rfl) rfl rfl ?_
      refine e_iadd (pc' := 38) (dAt D182 22 rfl) rfl ?_
      obtain ⟨f1, h⟩ := h
      refine e_iaload (pc' := 39) (dAt D182 23 rfl) rfl (hT.arr hOx0 10 rfl (by decide)).1 (Or.inl (hT.arr hOx0 10 rfl (by decide)).2) f1 rfl ?_
      refine e_icmp_le (t := 46) (pc' := 42) (dAt D182 24 rfl) ⟨by decide, by decide⟩ rfl (fun c => ?_) (fun c => ?_)
      · replace h := h.1 c
        refine e_iconst (pc' := 47) (v := 0) (dAt D182 27 rfl) rfl (by decide) ?_
        refine e_istore_n (pc' := 48) (dAt D182 28 rfl) rfl (Nat.le_of_ble_eq_true rfl) rfl ?_
        replace h := h _ rfl
        refine e_iinc (pc' := 51) (dAt D182 29 rfl) rfl rfl (Nat.le_of_ble_eq_true rfl) (congrArg (_ + ·) (show Int32.ofInt (1) = (1 : Int32) by decide)) rfl ?_
        refine e_goto (t := 5) (dAt D182 30 rfl) ⟨by decide, by decide⟩ ?_
        exact h
      · replace h := h.2 c
        refine e_iconst (pc' := 43) (v := 1) (dAt D182 25 rfl) rfl (by decide) ?_
        refine e_goto (t := 47) (dAt D182 26 rfl) ⟨by decide, by decide⟩ ?_
        refine e_istore_n (pc' := 48) (dAt D182 28 rfl) rfl (Nat.le_of_ble_eq_true rfl) rfl ?_
        replace h := h _ rfl
        refine e_iinc (pc' := 51) (dAt D182 29 rfl) rfl rfl (Nat.le_of_ble_eq_true rfl) (congrArg (_ + ·) (show Int32.ofInt (1) = (1 : Int32) by decide)) rfl ?_
        refine e_goto (t := 5) (dAt D182 30 rfl) ⟨by decide, by decide⟩ ?_
        exact h
-- PlaceNetsModel.grow.(II)V, from 57
set_option maxRecDepth 20000 in
theorem bk182_57 {d b : Nat} {Q : Option Value → mMem → Prop} {m : mMem} {x0 : Nat} {x1 : Int32} {x2 : Int32} {x3 : Int32} {x4 : Int32} (hT : mWT m) (hOx0 : m.1 x0 = some (.inr 8) ∧ x0 ≠ 0)
    (h : ((((iF m x0 6) ≤ x4) → (Q none m)) ∧ (¬ ((iF m x0 6) ≤ x4) → (((¬ x3 = 0) → (Q none m)) ∧ (¬ (¬ x3 = 0) → ((mIn ((10 * x1) + x4) 2010 = true) ∧ ((mIn (x2 + x4) 2010 = true) ∧ ((((m.2.2.1 (64 * x0 + 11) (x2 + x4).toNatClampNeg) ≤ (m.2.2.1 (64 * x0 + 11) ((10 * x1) + x4).toNatClampNeg)) → ((mIn (x2 + x4) 2010 = true) ∧ ((mIn (x2 + x4) 2010 = true) ∧ (∀ (m_1 : mMem), m_1 = (mSetI m (64 * x0 + 11) (upd (m.2.2.1 (64 * x0 + 11)) (x2 + x4).toNatClampNeg (m.2.2.1 (64 * x0 + 11) (x2 + x4).toNatClampNeg))) → ∀ (v_3 : Int32), v_3 = (x4 + 1) → mEs d 182 b g182 (57, [some (.ref x0), some (.int x1), some (.int x2), some (.int x3), some (.int v_3)], [], m_1) Q)))) ∧ (¬ ((m.2.2.1 (64 * x0 + 11) (x2 + x4).toNatClampNeg) ≤ (m.2.2.1 (64 * x0 + 11) ((10 * x1) + x4).toNatClampNeg)) → ((mIn (x2 + x4) 2010 = true) ∧ (∀ (m_4 : mMem), m_4 = (mSetI m (64 * x0 + 11) (upd (m.2.2.1 (64 * x0 + 11)) (x2 + x4).toNatClampNeg 1000000)) → ∀ (v_6 : Int32), v_6 = (x4 + 1) → mEs d 182 b g182 (57, [some (.ref x0), some (.int x1), some (.int x2), some (.int x3), some (.int v_6)], [], m_4) Q))))))))))) :
    mEs d 182 b g182 (57, [some (.ref x0), some (.int x1), some (.int x2), some (.int x3), some (.int x4)], [], m) Q := by
  refine e_iload (pc' := 59) (dAt D182 33 rfl) rfl rfl ?_
  refine e_aload_n (pc' := 60) (dAt D182 34 rfl) rfl rfl ?_
  refine e_getfield (pc' := 63) (dAt D182 35 rfl) rfl rfl hOx0 (hT.int hOx0 6 (by decide)) ?_
  refine e_icmp_ge (t := 123) (pc' := 66) (dAt D182 36 rfl) ⟨by decide, by decide⟩ rfl (fun c => ?_) (fun c => ?_)
  · replace h := h.1 c
    exact e_return (dAt D182 70 rfl) rfl h
  · replace h := h.2 c
    refine e_iload_n (pc' := 67) (dAt D182 37 rfl) rfl rfl ?_
    refine e_if_ne (t := 123) (pc' := 70) (dAt D182 38 rfl) ⟨by decide, by decide⟩ rfl (fun c => ?_) (fun c => ?_)
    · replace h := h.1 c
      exact e_return (dAt D182 70 rfl) rfl h
    · replace h := h.2 c
      refine e_aload_n (pc' := 71) (dAt D182 39 rfl) rfl rfl ?_
      refine e_getfield (pc' := 74) (dAt D182 40 rfl) rfl rfl hOx0 (hT.own hOx0 10 rfl) ?_
      refine e_iload_n (pc' := 75) (dAt D182 41 rfl) rfl rfl ?_
      refine e_iload (pc' := 77) (dAt D182 42 rfl) rfl rfl ?_
      refine e_iadd (pc' := 78) (dAt D182 43 rfl) rfl ?_
      refine e_aload_n (pc' := 79) (dAt D182 44 rfl) rfl rfl ?_
      refine e_getfield (pc' := 82) (dAt D182 45 rfl) rfl rfl hOx0 (hT.own hOx0 10 rfl) ?_
      refine e_bipush (pc' := 84) (v := 10) (dAt D182 46 rfl) rfl (by decide) ?_
      refine e_iload_n (pc' := 85) (dAt D182 47 rfl) rfl rfl ?_
      refine e_imul (pc' := 86) (dAt D182 48 rfl) rfl ?_
      refine e_iload (pc' := 88) (dAt D182 49 rfl) rfl rfl ?_
      refine e_iadd (pc' := 89) (dAt D182 50 rfl) rfl ?_
      obtain ⟨f1, h⟩ := h
      refine e_iaload (pc' := 90) (dAt D182 51 rfl) rfl (hT.arr hOx0 10 rfl (by decide)).1 (Or.inl (hT.arr hOx0 10 rfl (by decide)).2) f1 rfl ?_
      refine e_aload_n (pc' := 91) (dAt D182 52 rfl) rfl rfl ?_
      refine e_getfield (pc' := 94) (dAt D182 53 rfl) rfl rfl hOx0 (hT.own hOx0 10 rfl) ?_
      refine e_iload_n (pc' := 95) (dAt D182 54 rfl) rfl rfl ?_
      refine e_iload (pc' := 97) (dAt D182 55 rfl) rfl rfl ?_
      refine e_iadd (pc' := 98) (dAt D182 56 rfl) rfl ?_
      obtain ⟨f1, h⟩ := h
      refine e_iaload (pc' := 99) (dAt D182 57 rfl) rfl (hT.arr hOx0 10 rfl (by decide)).1 (Or.inl (hT.arr hOx0 10 rfl (by decide)).2) f1 rfl ?_
      refine e_icmp_ge (t := 107) (pc' := 102) (dAt D182 58 rfl) ⟨by decide, by decide⟩ rfl (fun c => ?_) (fun c => ?_)
      · replace h := h.1 c
        refine e_aload_n (pc' := 108) (dAt D182 61 rfl) rfl rfl ?_
        refine e_getfield (pc' := 111) (dAt D182 62 rfl) rfl rfl hOx0 (hT.own hOx0 10 rfl) ?_
        refine e_iload_n (pc' := 112) (dAt D182 63 rfl) rfl rfl ?_
        refine e_iload (pc' := 114) (dAt D182 64 rfl) rfl rfl ?_
        refine e_iadd (pc' := 115) (dAt D182 65 rfl) rfl ?_
        obtain ⟨f1, h⟩ := h
        refine e_iaload (pc' := 116) (dAt D182 66 rfl) rfl (hT.arr hOx0 10 rfl (by decide)).1 (Or.inl (hT.arr hOx0 10 rfl (by decide)).2) f1 rfl ?_
        obtain ⟨f1, h⟩ := h
        replace h := h _ rfl
        refine e_iastore (pc' := 117) (dAt D182 67 rfl) rfl (hT.arr hOx0 10 rfl (by decide)).1 (hT.arr hOx0 10 rfl (by decide)).2 f1 (nar_i _) ?_
        refine wtI hT (fun hT_2 => ?_)
        replace h := h _ rfl
        refine e_iinc (pc' := 120) (dAt D182 68 rfl) rfl rfl (Nat.le_of_ble_eq_true rfl) (congrArg (_ + ·) (show Int32.ofInt (1) = (1 : Int32) by decide)) rfl ?_
        refine e_goto (t := 57) (dAt D182 69 rfl) ⟨by decide, by decide⟩ ?_
        exact h
      · replace h := h.2 c
        refine e_ldc (pc' := 104) (dAt D182 59 rfl) rfl rfl ?_
        refine e_goto (t := 116) (dAt D182 60 rfl) ⟨by decide, by decide⟩ ?_
        obtain ⟨f1, h⟩ := h
        replace h := h _ rfl
        refine e_iastore (pc' := 117) (dAt D182 67 rfl) rfl (hT.arr hOx0 10 rfl (by decide)).1 (hT.arr hOx0 10 rfl (by decide)).2 f1 (nar_i _) ?_
        refine wtI hT (fun hT_5 => ?_)
        replace h := h _ rfl
        refine e_iinc (pc' := 120) (dAt D182 68 rfl) rfl rfl (Nat.le_of_ble_eq_true rfl) (congrArg (_ + ·) (show Int32.ofInt (1) = (1 : Int32) by decide)) rfl ?_
        refine e_goto (t := 57) (dAt D182 69 rfl) ⟨by decide, by decide⟩ ?_
        exact h
-- PlaceNetsModel.canCovered.(I)I, from 0
set_option maxRecDepth 20000 in
theorem bk183_0 {d b : Nat} {Q : Option Value → mMem → Prop} {m : mMem} {x0 : Nat} {x1 : Int32} {x2 : Option Value} {x3 : Option Value} (hT : mWT m) (hOx0 : m.1 x0 = some (.inr 8) ∧ x0 ≠ 0)
    (h : mEs d 183 b g183 (4, [some (.ref x0), some (.int x1), some (.int 0), some (.int 0)], [], m) Q) :
    mEs d 183 b g183 (0, [some (.ref x0), some (.int x1), x2, x3], [], m) Q := by
  refine e_iconst (pc' := 1) (v := 0) (dAt D183 0 rfl) rfl (by decide) ?_
  refine e_istore_n (pc' := 2) (dAt D183 1 rfl) rfl (Nat.le_of_ble_eq_true rfl) rfl ?_
  refine e_iconst (pc' := 3) (v := 0) (dAt D183 2 rfl) rfl (by decide) ?_
  refine e_istore_n (pc' := 4) (dAt D183 3 rfl) rfl (Nat.le_of_ble_eq_true rfl) rfl ?_
  exact h
-- PlaceNetsModel.canCovered.(I)I, from 4
set_option maxRecDepth 20000 in
theorem bk183_4 {d b : Nat} {Q : Option Value → mMem → Prop} {m : mMem} {x0 : Nat} {x1 : Int32} {x2 : Int32} {x3 : Int32} (hT : mWT m) (hOx0 : m.1 x0 = some (.inr 8) ∧ x0 ≠ 0)
    (h : ((((iF m x0 7) ≤ x3) → (Q (some (.int x2)) m)) ∧ (¬ ((iF m x0 7) ≤ x3) → (mEv d 167 [.ref x0, .ref (64 * x0 + 11), .int (10 * x1), .int x3, .int 1000000] m (fun r m' => mEs d 183 b g183 (28, [some (.ref x0), some (.int x1), some (.int x2), some (.int x3)], r.toList ++ [.int x2], m') Q))))) :
    mEs d 183 b g183 (4, [some (.ref x0), some (.int x1), some (.int x2), some (.int x3)], [], m) Q := by
  refine e_iload_n (pc' := 5) (dAt D183 4 rfl) rfl rfl ?_
  refine e_aload_n (pc' := 6) (dAt D183 5 rfl) rfl rfl ?_
  refine e_getfield (pc' := 9) (dAt D183 6 rfl) rfl rfl hOx0 (hT.int hOx0 7 (by decide)) ?_
  refine e_icmp_ge (t := 46) (pc' := 12) (dAt D183 7 rfl) ⟨by decide, by decide⟩ rfl (fun c => ?_) (fun c => ?_)
  · replace h := h.1 c
    refine e_iload_n (pc' := 47) (dAt D183 28 rfl) rfl rfl ?_
    exact e_ireturn (dAt D183 29 rfl) rfl ⟨rfl, fun e => by cases e⟩ h
  · replace h := h.2 c
    refine e_iload_n (pc' := 13) (dAt D183 8 rfl) rfl rfl ?_
    refine e_aload_n (pc' := 14) (dAt D183 9 rfl) rfl rfl ?_
    refine e_aload_n (pc' := 15) (dAt D183 10 rfl) rfl rfl ?_
    refine e_getfield (pc' := 18) (dAt D183 11 rfl) rfl rfl hOx0 (hT.own hOx0 10 rfl) ?_
    refine e_bipush (pc' := 20) (v := 10) (dAt D183 12 rfl) rfl (by decide) ?_
    refine e_iload_n (pc' := 21) (dAt D183 13 rfl) rfl rfl ?_
    refine e_imul (pc' := 22) (dAt D183 14 rfl) rfl ?_
    refine e_iload_n (pc' := 23) (dAt D183 15 rfl) rfl rfl ?_
    refine e_ldc (pc' := 25) (dAt D183 16 rfl) rfl rfl ?_
    exact e_call2 h (dAt D183 17 rfl) (hi0 rfl) rfl G167 (by decide) rfl (Nat.le_of_ble_eq_true rfl) (kV hOx0 rfl rfl) rfl rfl
-- PlaceNetsModel.canCovered.(I)I, from 28
set_option maxRecDepth 20000 in
theorem bk183_28 {d b : Nat} {Q : Option Value → mMem → Prop} {m : mMem} {x0 : Nat} {x1 : Int32} {x2 : Int32} {x3 : Int32} {y0 : Int32} {y1 : Int32} (hT : mWT m) (hOx0 : m.1 x0 = some (.inr 8) ∧ x0 ≠ 0)
    (h : (((y1 = 0) → (∀ (v_1 : Int32), v_1 = (y0 ||| 0) → ∀ (v_2 : Int32), v_2 = (x3 + 1) → mEs d 183 b g183 (4, [some (.ref x0), some (.int x1), some (.int v_1), some (.int v_2)], [], m) Q)) ∧ (¬ (y1 = 0) → (∀ (v_3 : Int32), v_3 = (y0 ||| ((1 : Int32) <<< (x3 &&& 31))) → ∀ (v_4 : Int32), v_4 = (x3 + 1) → mEs d 183 b g183 (4, [some (.ref x0), some (.int x1), some (.int v_3), some (.int v_4)], [], m) Q)))) :
    mEs d 183 b g183 (28, [some (.ref x0), some (.int x1), some (.int x2), some (.int x3)], [.int y1, .int y0], m) Q := by
  refine e_if_eq (t := 37) (pc' := 31) (dAt D183 18 rfl) ⟨by decide, by decide⟩ rfl (fun c => ?_) (fun c => ?_)
  · replace h := h.1 c
    refine e_iconst (pc' := 38) (v := 0) (dAt D183 23 rfl) rfl (by decide) ?_
    refine e_ior (pc' := 39) (dAt D183 24 rfl) rfl ?_
    replace h := h _ rfl
    refine e_istore_n (pc' := 40) (dAt D183 25 rfl) rfl (Nat.le_of_ble_eq_true rfl) rfl ?_
    replace h := h _ rfl
    refine e_iinc (pc' := 43) (dAt D183 26 rfl) rfl rfl (Nat.le_of_ble_eq_true rfl) (congrArg (_ + ·) (show Int32.ofInt (1) = (1 : Int32) by decide)) rfl ?_
    refine e_goto (t := 4) (dAt D183 27 rfl) ⟨by decide, by decide⟩ ?_
    exact h
  · replace h := h.2 c
    refine e_iconst (pc' := 32) (v := 1) (dAt D183 19 rfl) rfl (by decide) ?_
    refine e_iload_n (pc' := 33) (dAt D183 20 rfl) rfl rfl ?_
    refine e_ishl (pc' := 34) (dAt D183 21 rfl) rfl ?_
    refine e_goto (t := 38) (dAt D183 22 rfl) ⟨by decide, by decide⟩ ?_
    refine e_ior (pc' := 39) (dAt D183 24 rfl) rfl ?_
    replace h := h _ rfl
    refine e_istore_n (pc' := 40) (dAt D183 25 rfl) rfl (Nat.le_of_ble_eq_true rfl) rfl ?_
    replace h := h _ rfl
    refine e_iinc (pc' := 43) (dAt D183 26 rfl) rfl rfl (Nat.le_of_ble_eq_true rfl) (congrArg (_ + ·) (show Int32.ofInt (1) = (1 : Int32) by decide)) rfl ?_
    refine e_goto (t := 4) (dAt D183 27 rfl) ⟨by decide, by decide⟩ ?_
    exact h
-- PlaceNetsModel.isOld.(I)Z, from 0
set_option maxRecDepth 20000 in
theorem bk184_0 {d b : Nat} {Q : Option Value → mMem → Prop} {m : mMem} {x0 : Nat} {x1 : Int32} {x2 : Option Value} {x3 : Option Value} {x4 : Option Value} (hT : mWT m) (hOx0 : m.1 x0 = some (.inr 8) ∧ x0 ≠ 0)
    (h : mEs d 184 b g184 (4, [some (.ref x0), some (.int x1), some (.int 0), some (.int 0), x4], [], m) Q) :
    mEs d 184 b g184 (0, [some (.ref x0), some (.int x1), x2, x3, x4], [], m) Q := by
  refine e_iconst (pc' := 1) (v := 0) (dAt D184 0 rfl) rfl (by decide) ?_
  refine e_istore_n (pc' := 2) (dAt D184 1 rfl) rfl (Nat.le_of_ble_eq_true rfl) rfl ?_
  refine e_iconst (pc' := 3) (v := 0) (dAt D184 2 rfl) rfl (by decide) ?_
  refine e_istore_n (pc' := 4) (dAt D184 3 rfl) rfl (Nat.le_of_ble_eq_true rfl) rfl ?_
  exact h
-- PlaceNetsModel.isOld.(I)Z, from 4
set_option maxRecDepth 20000 in
theorem bk184_4 {d b : Nat} {Q : Option Value → mMem → Prop} {m : mMem} {x0 : Nat} {x1 : Int32} {x2 : Int32} {x3 : Int32} {x4 : Option Value} (hT : mWT m) (hOx0 : m.1 x0 = some (.inr 8) ∧ x0 ≠ 0)
    (h : (((x1 ≤ x3) → ((x2 = 0 ∨ x2 = 1) ∧ (Q (some (.int x2)) m))) ∧ (¬ (x1 ≤ x3) → (((¬ x2 = 0) → ((x2 = 0 ∨ x2 = 1) ∧ (Q (some (.int x2)) m))) ∧ (¬ (¬ x2 = 0) → (mEs d 184 b g184 (18, [some (.ref x0), some (.int x1), some (.int 1), some (.int x3), some (.int 0)], [], m) Q)))))) :
    mEs d 184 b g184 (4, [some (.ref x0), some (.int x1), some (.int x2), some (.int x3), x4], [], m) Q := by
  refine e_iload_n (pc' := 5) (dAt D184 4 rfl) rfl rfl ?_
  refine e_iload_n (pc' := 6) (dAt D184 5 rfl) rfl rfl ?_
  refine e_icmp_ge (t := 76) (pc' := 9) (dAt D184 6 rfl) ⟨by decide, by decide⟩ rfl (fun c => ?_) (fun c => ?_)
  · replace h := h.1 c
    refine e_iload_n (pc' := 77) (dAt D184 44 rfl) rfl rfl ?_
    obtain ⟨f1, h⟩ := h
    exact e_ireturn (dAt D184 45 rfl) rfl ⟨nb01 f1, fun e => by cases e⟩ h
  · replace h := h.2 c
    refine e_iload_n (pc' := 10) (dAt D184 7 rfl) rfl rfl ?_
    refine e_if_ne (t := 76) (pc' := 13) (dAt D184 8 rfl) ⟨by decide, by decide⟩ rfl (fun c => ?_) (fun c => ?_)
    · replace h := h.1 c
      refine e_iload_n (pc' := 77) (dAt D184 44 rfl) rfl rfl ?_
      obtain ⟨f1, h⟩ := h
      exact e_ireturn (dAt D184 45 rfl) rfl ⟨nb01 f1, fun e => by cases e⟩ h
    · replace h := h.2 c
      refine e_iconst (pc' := 14) (v := 1) (dAt D184 9 rfl) rfl (by decide) ?_
      refine e_istore_n (pc' := 15) (dAt D184 10 rfl) rfl (Nat.le_of_ble_eq_true rfl) rfl ?_
      refine e_iconst (pc' := 16) (v := 0) (dAt D184 11 rfl) rfl (by decide) ?_
      refine e_istore (pc' := 18) (dAt D184 12 rfl) rfl (Nat.le_of_ble_eq_true rfl) rfl ?_
      exact h
-- PlaceNetsModel.isOld.(I)Z, from 18
set_option maxRecDepth 20000 in
theorem bk184_18 {d b : Nat} {Q : Option Value → mMem → Prop} {m : mMem} {x0 : Nat} {x1 : Int32} {x2 : Int32} {x3 : Int32} {x4 : Int32} (hT : mWT m) (hOx0 : m.1 x0 = some (.inr 8) ∧ x0 ≠ 0)
    (h : ((((iF m x0 6) ≤ x4) → (∀ (v_1 : Int32), v_1 = (x3 + 1) → mEs d 184 b g184 (4, [some (.ref x0), some (.int x1), some (.int x2), some (.int v_1), some (.int x4)], [], m) Q)) ∧ (¬ ((iF m x0 6) ≤ x4) → (((x2 = 0) → (∀ (v_2 : Int32), v_2 = (x4 + 1) → mEs d 184 b g184 (18, [some (.ref x0), some (.int x1), some (.int 0), some (.int x3), some (.int v_2)], [], m) Q)) ∧ (¬ (x2 = 0) → ((mIn ((10 * x3) + x4) 2010 = true) ∧ ((mIn ((10 * x1) + x4) 2010 = true) ∧ (((¬ (m.2.2.1 (64 * x0 + 11) ((10 * x3) + x4).toNatClampNeg) = (m.2.2.1 (64 * x0 + 11) ((10 * x1) + x4).toNatClampNeg)) → (∀ (v_3 : Int32), v_3 = (x4 + 1) → mEs d 184 b g184 (18, [some (.ref x0), some (.int x1), some (.int 0), some (.int x3), some (.int v_3)], [], m) Q)) ∧ (¬ (¬ (m.2.2.1 (64 * x0 + 11) ((10 * x3) + x4).toNatClampNeg) = (m.2.2.1 (64 * x0 + 11) ((10 * x1) + x4).toNatClampNeg)) → (∀ (v_4 : Int32), v_4 = (x4 + 1) → mEs d 184 b g184 (18, [some (.ref x0), some (.int x1), some (.int 1), some (.int x3), some (.int v_4)], [], m) Q)))))))))) :
    mEs d 184 b g184 (18, [some (.ref x0), some (.int x1), some (.int x2), some (.int x3), some (.int x4)], [], m) Q := by
  refine e_iload (pc' := 20) (dAt D184 13 rfl) rfl rfl ?_
  refine e_aload_n (pc' := 21) (dAt D184 14 rfl) rfl rfl ?_
  refine e_getfield (pc' := 24) (dAt D184 15 rfl) rfl rfl hOx0 (hT.int hOx0 6 (by decide)) ?_
  refine e_icmp_ge (t := 70) (pc' := 27) (dAt D184 16 rfl) ⟨by decide, by decide⟩ rfl (fun c => ?_) (fun c => ?_)
  · replace h := h.1 c
    replace h := h _ rfl
    refine e_iinc (pc' := 73) (dAt D184 42 rfl) rfl rfl (Nat.le_of_ble_eq_true rfl) (congrArg (_ + ·) (show Int32.ofInt (1) = (1 : Int32) by decide)) rfl ?_
    refine e_goto (t := 4) (dAt D184 43 rfl) ⟨by decide, by decide⟩ ?_
    exact h
  · replace h := h.2 c
    refine e_iload_n (pc' := 28) (dAt D184 17 rfl) rfl rfl ?_
    refine e_if_eq (t := 62) (pc' := 31) (dAt D184 18 rfl) ⟨by decide, by decide⟩ rfl (fun c => ?_) (fun c => ?_)
    · replace h := h.1 c
      refine e_iconst (pc' := 63) (v := 0) (dAt D184 38 rfl) rfl (by decide) ?_
      refine e_istore_n (pc' := 64) (dAt D184 39 rfl) rfl (Nat.le_of_ble_eq_true rfl) rfl ?_
      replace h := h _ rfl
      refine e_iinc (pc' := 67) (dAt D184 40 rfl) rfl rfl (Nat.le_of_ble_eq_true rfl) (congrArg (_ + ·) (show Int32.ofInt (1) = (1 : Int32) by decide)) rfl ?_
      refine e_goto (t := 18) (dAt D184 41 rfl) ⟨by decide, by decide⟩ ?_
      exact h
    · replace h := h.2 c
      refine e_aload_n (pc' := 32) (dAt D184 19 rfl) rfl rfl ?_
      refine e_getfield (pc' := 35) (dAt D184 20 rfl) rfl rfl hOx0 (hT.own hOx0 10 rfl) ?_
      refine e_bipush (pc' := 37) (v := 10) (dAt D184 21 rfl) rfl (by decide) ?_
      refine e_iload_n (pc' := 38) (dAt D184 22 rfl) rfl rfl ?_
      refine e_imul (pc' := 39) (dAt D184 23 rfl) rfl ?_
      refine e_iload (pc' := 41) (dAt D184 24 rfl) rfl rfl ?_
      refine e_iadd (pc' := 42) (dAt D184 25 rfl) rfl ?_
      obtain ⟨f1, h⟩ := h
      refine e_iaload (pc' := 43) (dAt D184 26 rfl) rfl (hT.arr hOx0 10 rfl (by decide)).1 (Or.inl (hT.arr hOx0 10 rfl (by decide)).2) f1 rfl ?_
      refine e_aload_n (pc' := 44) (dAt D184 27 rfl) rfl rfl ?_
      refine e_getfield (pc' := 47) (dAt D184 28 rfl) rfl rfl hOx0 (hT.own hOx0 10 rfl) ?_
      refine e_bipush (pc' := 49) (v := 10) (dAt D184 29 rfl) rfl (by decide) ?_
      refine e_iload_n (pc' := 50) (dAt D184 30 rfl) rfl rfl ?_
      refine e_imul (pc' := 51) (dAt D184 31 rfl) rfl ?_
      refine e_iload (pc' := 53) (dAt D184 32 rfl) rfl rfl ?_
      refine e_iadd (pc' := 54) (dAt D184 33 rfl) rfl ?_
      obtain ⟨f1, h⟩ := h
      refine e_iaload (pc' := 55) (dAt D184 34 rfl) rfl (hT.arr hOx0 10 rfl (by decide)).1 (Or.inl (hT.arr hOx0 10 rfl (by decide)).2) f1 rfl ?_
      refine e_icmp_ne (t := 62) (pc' := 58) (dAt D184 35 rfl) ⟨by decide, by decide⟩ rfl (fun c => ?_) (fun c => ?_)
      · replace h := h.1 c
        refine e_iconst (pc' := 63) (v := 0) (dAt D184 38 rfl) rfl (by decide) ?_
        refine e_istore_n (pc' := 64) (dAt D184 39 rfl) rfl (Nat.le_of_ble_eq_true rfl) rfl ?_
        replace h := h _ rfl
        refine e_iinc (pc' := 67) (dAt D184 40 rfl) rfl rfl (Nat.le_of_ble_eq_true rfl) (congrArg (_ + ·) (show Int32.ofInt (1) = (1 : Int32) by decide)) rfl ?_
        refine e_goto (t := 18) (dAt D184 41 rfl) ⟨by decide, by decide⟩ ?_
        exact h
      · replace h := h.2 c
        refine e_iconst (pc' := 59) (v := 1) (dAt D184 36 rfl) rfl (by decide) ?_
        refine e_goto (t := 63) (dAt D184 37 rfl) ⟨by decide, by decide⟩ ?_
        refine e_istore_n (pc' := 64) (dAt D184 39 rfl) rfl (Nat.le_of_ble_eq_true rfl) rfl ?_
        replace h := h _ rfl
        refine e_iinc (pc' := 67) (dAt D184 40 rfl) rfl rfl (Nat.le_of_ble_eq_true rfl) (congrArg (_ + ·) (show Int32.ofInt (1) = (1 : Int32) by decide)) rfl ?_
        refine e_goto (t := 18) (dAt D184 41 rfl) ⟨by decide, by decide⟩ ?_
        exact h
-- PlaceNetsModel.shown.(I)I, from 0
set_option maxRecDepth 20000 in
theorem bk185_0 {d b : Nat} {Q : Option Value → mMem → Prop} {m : mMem} {x0 : Int32} (hT : mWT m)
    (h : (((¬ x0 = 1000000) → (Q (some (.int x0)) m)) ∧ (¬ (¬ x0 = 1000000) → (Q (some (.int ((-9)))) m)))) :
    mEs d 185 b g185 (0, [some (.int x0)], [], m) Q := by
  refine e_iload_n (pc' := 1) (dAt D185 0 rfl) rfl rfl ?_
  refine e_ldc (pc' := 3) (dAt D185 1 rfl) rfl rfl ?_
  refine e_icmp_ne (t := 11) (pc' := 6) (dAt D185 2 rfl) ⟨by decide, by decide⟩ rfl (fun c => ?_) (fun c => ?_)
  · replace h := h.1 c
    refine e_iload_n (pc' := 12) (dAt D185 5 rfl) rfl rfl ?_
    exact e_ireturn (dAt D185 6 rfl) rfl ⟨rfl, fun e => by cases e⟩ h
  · replace h := h.2 c
    refine e_bipush (pc' := 8) (v := (-9)) (dAt D185 3 rfl) rfl (by decide) ?_
    refine e_goto (t := 12) (dAt D185 4 rfl) ⟨by decide, by decide⟩ ?_
    exact e_ireturn (dAt D185 6 rfl) rfl ⟨rfl, fun e => by cases e⟩ h
-- PlaceNetsModel.bound.(I)I, from 0
set_option maxRecDepth 20000 in
theorem bk186_0 {d b : Nat} {Q : Option Value → mMem → Prop} {m : mMem} {x0 : Nat} {x1 : Int32} {x2 : Option Value} {x3 : Option Value} (hT : mWT m) (hOx0 : m.1 x0 = some (.inr 8) ∧ x0 ≠ 0)
    (h : ∀ (m_1 : mMem), m_1 = (mSetF m x0 0 (.int 0)) → mEv d 161 [.ref x0, .int x1] m_1 (fun r m' => mEs d 186 b g186 (10, [some (.ref x0), some (.int x1), x2, x3], r.toList ++ [], m') Q)) :
    mEs d 186 b g186 (0, [some (.ref x0), some (.int x1), x2, x3], [], m) Q := by
  refine e_aload_n (pc' := 1) (dAt D186 0 rfl) rfl rfl ?_
  refine e_iconst (pc' := 2) (v := 0) (dAt D186 1 rfl) rfl (by decide) ?_
  replace h := h _ rfl
  refine e_putfield (pc' := 5) (dAt D186 2 rfl) rfl rfl hOx0 rfl rfl (fun e => by cases e) ?_
  refine wtF hT hOx0 (by decide) (fun hT_2 => ?_)
  refine e_aload_n (pc' := 6) (dAt D186 3 rfl) rfl rfl ?_
  refine e_iload_n (pc' := 7) (dAt D186 4 rfl) rfl rfl ?_
  exact e_call2 h (dAt D186 5 rfl) (hi0 rfl) rfl G161 (by decide) rfl (Nat.le_of_ble_eq_true rfl) (kV hOx0 rfl rfl) rfl rfl
-- PlaceNetsModel.bound.(I)I, from 10
set_option maxRecDepth 20000 in
theorem bk186_10 {d b : Nat} {Q : Option Value → mMem → Prop} {m : mMem} {x0 : Nat} {x1 : Int32} {x2 : Option Value} {x3 : Option Value} {y0 : Int32} (hT : mWT m) (hOx0 : m.1 x0 = some (.inr 8) ∧ x0 ≠ 0)
    (h : (((¬ y0 = 0) → (mEv d 180 [.ref x0] m (fun r m' => mEs d 186 b g186 (19, [some (.ref x0), some (.int x1), x2, x3], r.toList ++ [], m') Q))) ∧ (¬ (¬ y0 = 0) → (Q (some (.int ((-1)))) m)))) :
    mEs d 186 b g186 (10, [some (.ref x0), some (.int x1), x2, x3], [.int y0], m) Q := by
  refine e_if_ne (t := 15) (pc' := 13) (dAt D186 6 rfl) ⟨by decide, by decide⟩ rfl (fun c => ?_) (fun c => ?_)
  · replace h := h.1 c
    refine e_aload_n (pc' := 16) (dAt D186 9 rfl) rfl rfl ?_
    exact e_call2 h (dAt D186 10 rfl) (hi0 rfl) rfl G180 (by decide) rfl (Nat.le_of_ble_eq_true rfl) (kV hOx0 rfl rfl) rfl rfl
  · replace h := h.2 c
    refine e_iconst (pc' := 14) (v := (-1)) (dAt D186 7 rfl) rfl (by decide) ?_
    exact e_ireturn (dAt D186 8 rfl) rfl ⟨rfl, fun e => by cases e⟩ h
-- PlaceNetsModel.bound.(I)I, from 19
set_option maxRecDepth 20000 in
theorem bk186_19 {d b : Nat} {Q : Option Value → mMem → Prop} {m : mMem} {x0 : Nat} {x1 : Int32} {x2 : Option Value} {x3 : Option Value} (hT : mWT m) (hOx0 : m.1 x0 = some (.inr 8) ∧ x0 ≠ 0)
    (h : ((((iF m x0 26) ≤ 200) → (mEs d 186 b g186 (36, [some (.ref x0), some (.int x1), some (.int 0), some (.int 0)], [], m) Q)) ∧ (¬ ((iF m x0 26) ≤ 200) → (Q (some (.int ((-2)))) m)))) :
    mEs d 186 b g186 (19, [some (.ref x0), some (.int x1), x2, x3], [], m) Q := by
  refine e_aload_n (pc' := 20) (dAt D186 11 rfl) rfl rfl ?_
  refine e_getfield (pc' := 23) (dAt D186 12 rfl) rfl rfl hOx0 (hT.int hOx0 26 (by decide)) ?_
  refine e_sipush (pc' := 26) (v := 200) (dAt D186 13 rfl) rfl (by decide) ?_
  refine e_icmp_le (t := 32) (pc' := 29) (dAt D186 14 rfl) ⟨by decide, by decide⟩ rfl (fun c => ?_) (fun c => ?_)
  · replace h := h.1 c
    refine e_iconst (pc' := 33) (v := 0) (dAt D186 17 rfl) rfl (by decide) ?_
    refine e_istore_n (pc' := 34) (dAt D186 18 rfl) rfl (Nat.le_of_ble_eq_true rfl) rfl ?_
    refine e_iconst (pc' := 35) (v := 0) (dAt D186 19 rfl) rfl (by decide) ?_
    refine e_istore_n (pc' := 36) (dAt D186 20 rfl) rfl (Nat.le_of_ble_eq_true rfl) rfl ?_
    exact h
  · replace h := h.2 c
    refine e_bipush (pc' := 31) (v := (-2)) (dAt D186 15 rfl) rfl (by decide) ?_
    exact e_ireturn (dAt D186 16 rfl) rfl ⟨rfl, fun e => by cases e⟩ h
-- PlaceNetsModel.bound.(I)I, from 36
set_option maxRecDepth 20000 in
theorem bk186_36 {d b : Nat} {Q : Option Value → mMem → Prop} {m : mMem} {x0 : Nat} {x1 : Int32} {x2 : Int32} {x3 : Int32} (hT : mWT m) (hOx0 : m.1 x0 = some (.inr 8) ∧ x0 ≠ 0)
    (h : ((((iF m x0 26) ≤ x3) → (mEv d 185 [.int x2] m (fun r m' => mEs d 186 b g186 (85, [some (.ref x0), some (.int x1), some (.int x2), some (.int x3)], r.toList ++ [], m') Q))) ∧ (¬ ((iF m x0 26) ≤ x3) → ((mIn ((10 * x3) + x1) 2010 = true) ∧ ((((m.2.2.1 (64 * x0 + 11) ((10 * x3) + x1).toNatClampNeg) ≤ x2) → (∀ (v_1 : Int32), v_1 = (x3 + 1) → mEs d 186 b g186 (36, [some (.ref x0), some (.int x1), some (.int x2), some (.int v_1)], [], m) Q)) ∧ (¬ ((m.2.2.1 (64 * x0 + 11) ((10 * x3) + x1).toNatClampNeg) ≤ x2) → ((mIn ((10 * x3) + x1) 2010 = true) ∧ (∀ (v_2 : Int32), v_2 = (m.2.2.1 (64 * x0 + 11) ((10 * x3) + x1).toNatClampNeg) → ∀ (v_3 : Int32), v_3 = (x3 + 1) → mEs d 186 b g186 (36, [some (.ref x0), some (.int x1), some (.int v_2), some (.int v_3)], [], m) Q)))))))) :
    mEs d 186 b g186 (36, [some (.ref x0), some (.int x1), some (.int x2), some (.int x3)], [], m) Q := by
  refine e_iload_n (pc' := 37) (dAt D186 21 rfl) rfl rfl ?_
  refine e_aload_n (pc' := 38) (dAt D186 22 rfl) rfl rfl ?_
  refine e_getfield (pc' := 41) (dAt D186 23 rfl) rfl rfl hOx0 (hT.int hOx0 26 (by decide)) ?_
  refine e_icmp_ge (t := 81) (pc' := 44) (dAt D186 24 rfl) ⟨by decide, by decide⟩ rfl (fun c => ?_) (fun c => ?_)
  · replace h := h.1 c
    refine e_iload_n (pc' := 82) (dAt D186 48 rfl) rfl rfl ?_
    exact e_call2 h (dAt D186 49 rfl) (hi2 rfl) rfl G185 (by decide) rfl (Nat.le_of_ble_eq_true rfl) rfl rfl rfl
  · replace h := h.2 c
    refine e_aload_n (pc' := 45) (dAt D186 25 rfl) rfl rfl ?_
    refine e_getfield (pc' := 48) (dAt D186 26 rfl) rfl rfl hOx0 (hT.own hOx0 10 rfl) ?_
    refine e_bipush (pc' := 50) (v := 10) (dAt D186 27 rfl) rfl (by decide) ?_
    refine e_iload_n (pc' := 51) (dAt D186 28 rfl) rfl rfl ?_
    refine e_imul (pc' := 52) (dAt D186 29 rfl) rfl ?_
    refine e_iload_n (pc' := 53) (dAt D186 30 rfl) rfl rfl ?_
    refine e_iadd (pc' := 54) (dAt D186 31 rfl) rfl ?_
    obtain ⟨f1, h⟩ := h
    refine e_iaload (pc' := 55) (dAt D186 32 rfl) rfl (hT.arr hOx0 10 rfl (by decide)).1 (Or.inl (hT.arr hOx0 10 rfl (by decide)).2) f1 rfl ?_
    refine e_iload_n (pc' := 56) (dAt D186 33 rfl) rfl rfl ?_
    refine e_icmp_le (t := 73) (pc' := 59) (dAt D186 34 rfl) ⟨by decide, by decide⟩ rfl (fun c => ?_) (fun c => ?_)
    · replace h := h.1 c
      refine e_iload_n (pc' := 74) (dAt D186 44 rfl) rfl rfl ?_
      refine e_istore_n (pc' := 75) (dAt D186 45 rfl) rfl (Nat.le_of_ble_eq_true rfl) rfl ?_
      replace h := h _ rfl
      refine e_iinc (pc' := 78) (dAt D186 46 rfl) rfl rfl (Nat.le_of_ble_eq_true rfl) (congrArg (_ + ·) (show Int32.ofInt (1) = (1 : Int32) by decide)) rfl ?_
      refine e_goto (t := 36) (dAt D186 47 rfl) ⟨by decide, by decide⟩ ?_
      exact h
    · replace h := h.2 c
      refine e_aload_n (pc' := 60) (dAt D186 35 rfl) rfl rfl ?_
      refine e_getfield (pc' := 63) (dAt D186 36 rfl) rfl rfl hOx0 (hT.own hOx0 10 rfl) ?_
      refine e_bipush (pc' := 65) (v := 10) (dAt D186 37 rfl) rfl (by decide) ?_
      refine e_iload_n (pc' := 66) (dAt D186 38 rfl) rfl rfl ?_
      refine e_imul (pc' := 67) (dAt D186 39 rfl) rfl ?_
      refine e_iload_n (pc' := 68) (dAt D186 40 rfl) rfl rfl ?_
      refine e_iadd (pc' := 69) (dAt D186 41 rfl) rfl ?_
      obtain ⟨f1, h⟩ := h
      refine e_iaload (pc' := 70) (dAt D186 42 rfl) rfl (hT.arr hOx0 10 rfl (by decide)).1 (Or.inl (hT.arr hOx0 10 rfl (by decide)).2) f1 rfl ?_
      refine e_goto (t := 74) (dAt D186 43 rfl) ⟨by decide, by decide⟩ ?_
      replace h := h _ rfl
      refine e_istore_n (pc' := 75) (dAt D186 45 rfl) rfl (Nat.le_of_ble_eq_true rfl) rfl ?_
      replace h := h _ rfl
      refine e_iinc (pc' := 78) (dAt D186 46 rfl) rfl rfl (Nat.le_of_ble_eq_true rfl) (congrArg (_ + ·) (show Int32.ofInt (1) = (1 : Int32) by decide)) rfl ?_
      refine e_goto (t := 36) (dAt D186 47 rfl) ⟨by decide, by decide⟩ ?_
      exact h
-- PlaceNetsModel.bound.(I)I, from 85
set_option maxRecDepth 20000 in
theorem bk186_85 {d b : Nat} {Q : Option Value → mMem → Prop} {m : mMem} {x0 : Nat} {x1 : Int32} {x2 : Int32} {x3 : Int32} {y0 : Int32} (hT : mWT m) (hOx0 : m.1 x0 = some (.inr 8) ∧ x0 ≠ 0)
    (h : Q (some (.int y0)) m) :
    mEs d 186 b g186 (85, [some (.ref x0), some (.int x1), some (.int x2), some (.int x3)], [.int y0], m) Q := by
  exact e_ireturn (dAt D186 50 rfl) rfl ⟨rfl, fun e => by cases e⟩ h
-- PlaceNetsModel.covers.(I)I, from 0
set_option maxRecDepth 20000 in
theorem bk187_0 {d b : Nat} {Q : Option Value → mMem → Prop} {m : mMem} {x0 : Nat} {x1 : Int32} {x2 : Option Value} {x3 : Option Value} {x4 : Option Value} (hT : mWT m) (hOx0 : m.1 x0 = some (.inr 8) ∧ x0 ≠ 0)
    (h : ∀ (m_1 : mMem), m_1 = (mSetF m x0 0 (.int 0)) → ((((iF m_1 x0 18) = 0) → (Q (some (.int ((-1)))) m_1)) ∧ (¬ ((iF m_1 x0 18) = 0) → (mEv d 151 [.long x1.toInt64, .long 0, .long 1] m_1 (fun r m' => mEs d 187 b g187 (19, [some (.ref x0), some (.int x1), x2, x3, x4], r.toList ++ [], m') Q))))) :
    mEs d 187 b g187 (0, [some (.ref x0), some (.int x1), x2, x3, x4], [], m) Q := by
  refine e_aload_n (pc' := 1) (dAt D187 0 rfl) rfl rfl ?_
  refine e_iconst (pc' := 2) (v := 0) (dAt D187 1 rfl) rfl (by decide) ?_
  replace h := h _ rfl
  refine e_putfield (pc' := 5) (dAt D187 2 rfl) rfl rfl hOx0 rfl rfl (fun e => by cases e) ?_
  refine wtF hT hOx0 (by decide) (fun hT_2 => ?_)
  refine e_aload_n (pc' := 6) (dAt D187 3 rfl) rfl rfl ?_
  refine e_getfield (pc' := 9) (dAt D187 4 rfl) rfl rfl hOx0 (hT_2.int hOx0 18 (by decide)) ?_
  refine e_if_eq (t := 22) (pc' := 12) (dAt D187 5 rfl) ⟨by decide, by decide⟩ rfl (fun c => ?_) (fun c => ?_)
  · replace h := h.1 c
    refine e_iconst (pc' := 23) (v := (-1)) (dAt D187 12 rfl) rfl (by decide) ?_
    exact e_ireturn (dAt D187 13 rfl) rfl ⟨rfl, fun e => by cases e⟩ h
  · replace h := h.2 c
    refine e_iload_n (pc' := 13) (dAt D187 6 rfl) rfl rfl ?_
    refine e_i2l (pc' := 14) (dAt D187 7 rfl) rfl ?_
    refine e_lconst (pc' := 15) (v := 0) (dAt D187 8 rfl) rfl (by decide) ?_
    refine e_lconst (pc' := 16) (v := 1) (dAt D187 9 rfl) rfl (by decide) ?_
    exact e_call2 h (dAt D187 10 rfl) (hi2 rfl) rfl G151 (by decide) rfl (Nat.le_of_ble_eq_true rfl) rfl rfl rfl
-- PlaceNetsModel.covers.(I)I, from 19
set_option maxRecDepth 20000 in
theorem bk187_19 {d b : Nat} {Q : Option Value → mMem → Prop} {m : mMem} {x0 : Nat} {x1 : Int32} {x2 : Option Value} {x3 : Option Value} {x4 : Option Value} {y0 : Int32} (hT : mWT m) (hOx0 : m.1 x0 = some (.inr 8) ∧ x0 ≠ 0)
    (h : (((¬ y0 = 0) → (mEv d 180 [.ref x0] m (fun r m' => mEs d 187 b g187 (28, [some (.ref x0), some (.int x1), x2, x3, x4], r.toList ++ [], m') Q))) ∧ (¬ (¬ y0 = 0) → (Q (some (.int ((-1)))) m)))) :
    mEs d 187 b g187 (19, [some (.ref x0), some (.int x1), x2, x3, x4], [.int y0], m) Q := by
  refine e_if_ne (t := 24) (pc' := 22) (dAt D187 11 rfl) ⟨by decide, by decide⟩ rfl (fun c => ?_) (fun c => ?_)
  · replace h := h.1 c
    refine e_aload_n (pc' := 25) (dAt D187 14 rfl) rfl rfl ?_
    exact e_call2 h (dAt D187 15 rfl) (hi0 rfl) rfl G180 (by decide) rfl (Nat.le_of_ble_eq_true rfl) (kV hOx0 rfl rfl) rfl rfl
  · replace h := h.2 c
    refine e_iconst (pc' := 23) (v := (-1)) (dAt D187 12 rfl) rfl (by decide) ?_
    exact e_ireturn (dAt D187 13 rfl) rfl ⟨rfl, fun e => by cases e⟩ h
-- PlaceNetsModel.covers.(I)I, from 28
set_option maxRecDepth 20000 in
theorem bk187_28 {d b : Nat} {Q : Option Value → mMem → Prop} {m : mMem} {x0 : Nat} {x1 : Int32} {x2 : Option Value} {x3 : Option Value} {x4 : Option Value} (hT : mWT m) (hOx0 : m.1 x0 = some (.inr 8) ∧ x0 ≠ 0)
    (h : ((((iF m x0 26) ≤ 200) → (∀ (v_1 : Int32), v_1 = ((-3)) → ∀ (v_2 : Int32), v_2 = ((iF m x0 26) - 1) → mEs d 187 b g187 (54, [some (.ref x0), some (.int x1), some (.int 0), some (.int v_1), some (.int v_2)], [], m) Q)) ∧ (¬ ((iF m x0 26) ≤ 200) → (Q (some (.int ((-2)))) m)))) :
    mEs d 187 b g187 (28, [some (.ref x0), some (.int x1), x2, x3, x4], [], m) Q := by
  refine e_aload_n (pc' := 29) (dAt D187 16 rfl) rfl rfl ?_
  refine e_getfield (pc' := 32) (dAt D187 17 rfl) rfl rfl hOx0 (hT.int hOx0 26 (by decide)) ?_
  refine e_sipush (pc' := 35) (v := 200) (dAt D187 18 rfl) rfl (by decide) ?_
  refine e_icmp_le (t := 41) (pc' := 38) (dAt D187 19 rfl) ⟨by decide, by decide⟩ rfl (fun c => ?_) (fun c => ?_)
  · replace h := h.1 c
    refine e_iconst (pc' := 42) (v := 0) (dAt D187 22 rfl) rfl (by decide) ?_
    refine e_istore_n (pc' := 43) (dAt D187 23 rfl) rfl (Nat.le_of_ble_eq_true rfl) rfl ?_
    refine e_bipush (pc' := 45) (v := (-3)) (dAt D187 24 rfl) rfl (by decide) ?_
    replace h := h _ rfl
    refine e_istore_n (pc' := 46) (dAt D187 25 rfl) rfl (Nat.le_of_ble_eq_true rfl) rfl ?_
    refine e_aload_n (pc' := 47) (dAt D187 26 rfl) rfl rfl ?_
    refine e_getfield (pc' := 50) (dAt D187 27 rfl) rfl rfl hOx0 (hT.int hOx0 26 (by decide)) ?_
    refine e_iconst (pc' := 51) (v := 1) (dAt D187 28 rfl) rfl (by decide) ?_
    refine e_isub (pc' := 52) (dAt D187 29 rfl) rfl ?_
    replace h := h _ rfl
    refine e_istore (pc' := 54) (dAt D187 30 rfl) rfl (Nat.le_of_ble_eq_true rfl) rfl ?_
    exact h
  · replace h := h.2 c
    refine e_bipush (pc' := 40) (v := (-2)) (dAt D187 20 rfl) rfl (by decide) ?_
    exact e_ireturn (dAt D187 21 rfl) rfl ⟨rfl, fun e => by cases e⟩ h
-- PlaceNetsModel.covers.(I)I, from 54
set_option maxRecDepth 20000 in
theorem bk187_54 {d b : Nat} {Q : Option Value → mMem → Prop} {m : mMem} {x0 : Nat} {x1 : Int32} {x2 : Int32} {x3 : Int32} {x4 : Int32} (hT : mWT m) (hOx0 : m.1 x0 = some (.inr 8) ∧ x0 ≠ 0)
    (h : (((x4 < 0) → (((¬ x1 = 0) → (Q (some (.int x2)) m)) ∧ (¬ (¬ x1 = 0) → (Q (some (.int x3)) m)))) ∧ (¬ (x4 < 0) → (mEv d 188 [.ref x0, .int x4] m (fun r m' => mEs d 187 b g187 (65, [some (.ref x0), some (.int x1), some (.int x2), some (.int x3), some (.int x4)], r.toList ++ [], m') Q))))) :
    mEs d 187 b g187 (54, [some (.ref x0), some (.int x1), some (.int x2), some (.int x3), some (.int x4)], [], m) Q := by
  refine e_iload (pc' := 56) (dAt D187 31 rfl) rfl rfl ?_
  refine e_if_lt (t := 80) (pc' := 59) (dAt D187 32 rfl) ⟨by decide, by decide⟩ rfl (fun c => ?_) (fun c => ?_)
  · replace h := h.1 c
    refine e_iload_n (pc' := 81) (dAt D187 42 rfl) rfl rfl ?_
    refine e_if_ne (t := 88) (pc' := 84) (dAt D187 43 rfl) ⟨by decide, by decide⟩ rfl (fun c => ?_) (fun c => ?_)
    · replace h := h.1 c
      refine e_iload_n (pc' := 89) (dAt D187 46 rfl) rfl rfl ?_
      exact e_ireturn (dAt D187 47 rfl) rfl ⟨rfl, fun e => by cases e⟩ h
    · replace h := h.2 c
      refine e_iload_n (pc' := 85) (dAt D187 44 rfl) rfl rfl ?_
      refine e_goto (t := 89) (dAt D187 45 rfl) ⟨by decide, by decide⟩ ?_
      exact e_ireturn (dAt D187 47 rfl) rfl ⟨rfl, fun e => by cases e⟩ h
  · replace h := h.2 c
    refine e_aload_n (pc' := 60) (dAt D187 33 rfl) rfl rfl ?_
    refine e_iload (pc' := 62) (dAt D187 34 rfl) rfl rfl ?_
    exact e_call2 h (dAt D187 35 rfl) (hi0 rfl) rfl G188 (by decide) rfl (Nat.le_of_ble_eq_true rfl) (kV hOx0 rfl rfl) rfl rfl
-- PlaceNetsModel.covers.(I)I, from 65
set_option maxRecDepth 20000 in
theorem bk187_65 {d b : Nat} {Q : Option Value → mMem → Prop} {m : mMem} {x0 : Nat} {x1 : Int32} {x2 : Int32} {x3 : Int32} {x4 : Int32} {y0 : Int32} (hT : mWT m) (hOx0 : m.1 x0 = some (.inr 8) ∧ x0 ≠ 0)
    (h : (((y0 = 0) → (∀ (v_1 : Int32), v_1 = (x4 + (-1)) → mEs d 187 b g187 (54, [some (.ref x0), some (.int x1), some (.int x2), some (.int x3), some (.int v_1)], [], m) Q)) ∧ (¬ (y0 = 0) → (∀ (v_2 : Int32), v_2 = (x2 + 1) → ∀ (v_3 : Int32), v_3 = (x4 + (-1)) → mEs d 187 b g187 (54, [some (.ref x0), some (.int x1), some (.int v_2), some (.int x4), some (.int v_3)], [], m) Q)))) :
    mEs d 187 b g187 (65, [some (.ref x0), some (.int x1), some (.int x2), some (.int x3), some (.int x4)], [.int y0], m) Q := by
  refine e_if_eq (t := 74) (pc' := 68) (dAt D187 36 rfl) ⟨by decide, by decide⟩ rfl (fun c => ?_) (fun c => ?_)
  · replace h := h.1 c
    replace h := h _ rfl
    refine e_iinc (pc' := 77) (dAt D187 40 rfl) rfl rfl (Nat.le_of_ble_eq_true rfl) (congrArg (_ + ·) (show Int32.ofInt (-1) = (-1 : Int32) by decide)) rfl ?_
    refine e_goto (t := 54) (dAt D187 41 rfl) ⟨by decide, by decide⟩ ?_
    exact h
  · replace h := h.2 c
    refine e_iload (pc' := 70) (dAt D187 37 rfl) rfl rfl ?_
    refine e_istore_n (pc' := 71) (dAt D187 38 rfl) rfl (Nat.le_of_ble_eq_true rfl) rfl ?_
    replace h := h _ rfl
    refine e_iinc (pc' := 74) (dAt D187 39 rfl) rfl rfl (Nat.le_of_ble_eq_true rfl) (congrArg (_ + ·) (show Int32.ofInt (1) = (1 : Int32) by decide)) rfl ?_
    replace h := h _ rfl
    refine e_iinc (pc' := 77) (dAt D187 40 rfl) rfl rfl (Nat.le_of_ble_eq_true rfl) (congrArg (_ + ·) (show Int32.ofInt (-1) = (-1 : Int32) by decide)) rfl ?_
    refine e_goto (t := 54) (dAt D187 41 rfl) ⟨by decide, by decide⟩ ?_
    exact h
-- PlaceNetsModel.covers1.(I)Z, from 0
set_option maxRecDepth 20000 in
theorem bk188_0 {d b : Nat} {Q : Option Value → mMem → Prop} {m : mMem} {x0 : Nat} {x1 : Int32} {x2 : Option Value} {x3 : Option Value} (hT : mWT m) (hOx0 : m.1 x0 = some (.inr 8) ∧ x0 ≠ 0)
    (h : mEs d 188 b g188 (4, [some (.ref x0), some (.int x1), some (.int 1), some (.int 0)], [], m) Q) :
    mEs d 188 b g188 (0, [some (.ref x0), some (.int x1), x2, x3], [], m) Q := by
  refine e_iconst (pc' := 1) (v := 1) (dAt D188 0 rfl) rfl (by decide) ?_
  refine e_istore_n (pc' := 2) (dAt D188 1 rfl) rfl (Nat.le_of_ble_eq_true rfl) rfl ?_
  refine e_iconst (pc' := 3) (v := 0) (dAt D188 2 rfl) rfl (by decide) ?_
  refine e_istore_n (pc' := 4) (dAt D188 3 rfl) rfl (Nat.le_of_ble_eq_true rfl) rfl ?_
  exact h
-- PlaceNetsModel.covers1.(I)Z, from 4
set_option maxRecDepth 20000 in
theorem bk188_4 {d b : Nat} {Q : Option Value → mMem → Prop} {m : mMem} {x0 : Nat} {x1 : Int32} {x2 : Int32} {x3 : Int32} (hT : mWT m) (hOx0 : m.1 x0 = some (.inr 8) ∧ x0 ≠ 0)
    (h : ((((iF m x0 6) ≤ x3) → ((x2 = 0 ∨ x2 = 1) ∧ (Q (some (.int x2)) m))) ∧ (¬ ((iF m x0 6) ≤ x3) → (((x2 = 0) → (∀ (v_1 : Int32), v_1 = (x3 + 1) → mEs d 188 b g188 (4, [some (.ref x0), some (.int x1), some (.int 0), some (.int v_1)], [], m) Q)) ∧ (¬ (x2 = 0) → ((mIn ((10 * x1) + x3) 2010 = true) ∧ ((mIn x3 10 = true) ∧ ((((m.2.2.1 (64 * x0 + 11) ((10 * x1) + x3).toNatClampNeg) < (m.2.2.1 (64 * x0 + 6) x3.toNatClampNeg)) → (∀ (v_2 : Int32), v_2 = (x3 + 1) → mEs d 188 b g188 (4, [some (.ref x0), some (.int x1), some (.int 0), some (.int v_2)], [], m) Q)) ∧ (¬ ((m.2.2.1 (64 * x0 + 11) ((10 * x1) + x3).toNatClampNeg) < (m.2.2.1 (64 * x0 + 6) x3.toNatClampNeg)) → (∀ (v_3 : Int32), v_3 = (x3 + 1) → mEs d 188 b g188 (4, [some (.ref x0), some (.int x1), some (.int 1), some (.int v_3)], [], m) Q)))))))))) :
    mEs d 188 b g188 (4, [some (.ref x0), some (.int x1), some (.int x2), some (.int x3)], [], m) Q := by
  refine e_iload_n (pc' := 5) (dAt D188 4 rfl) rfl rfl ?_
  refine e_aload_n (pc' := 6) (dAt D188 5 rfl) rfl rfl ?_
  refine e_getfield (pc' := 9) (dAt D188 6 rfl) rfl rfl hOx0 (hT.int hOx0 6 (by decide)) ?_
  refine e_icmp_ge (t := 48) (pc' := 12) (dAt D188 7 rfl) ⟨by decide, by decide⟩ rfl (fun c => ?_) (fun c => ?_)
  · replace h := h.1 c
    refine e_iload_n (pc' := 49) (dAt D188 29 rfl) rfl rfl ?_
    obtain ⟨f1, h⟩ := h
    exact e_ireturn (dAt D188 30 rfl) rfl ⟨nb01 f1, fun e => by cases e⟩ h
  · replace h := h.2 c
    refine e_iload_n (pc' := 13) (dAt D188 8 rfl) rfl rfl ?_
    refine e_if_eq (t := 40) (pc' := 16) (dAt D188 9 rfl) ⟨by decide, by decide⟩ rfl (fun c => ?_) (fun c => ?_)
    · replace h := h.1 c
      refine e_iconst (pc' := 41) (v := 0) (dAt D188 25 rfl) rfl (by decide) ?_
      refine e_istore_n (pc' := 42) (dAt D188 26 rfl) rfl (Nat.le_of_ble_eq_true rfl) rfl ?_
      replace h := h _ rfl
      refine e_iinc (pc' := 45) (dAt D188 27 rfl) rfl rfl (Nat.le_of_ble_eq_true rfl) (congrArg (_ + ·) (show Int32.ofInt (1) = (1 : Int32) by decide)) rfl ?_
      refine e_goto (t := 4) (dAt D188 28 rfl) ⟨by decide, by decide⟩ ?_
      exact h
    · replace h := h.2 c
      refine e_aload_n (pc' := 17) (dAt D188 10 rfl) rfl rfl ?_
      refine e_getfield (pc' := 20) (dAt D188 11 rfl) rfl rfl hOx0 (hT.own hOx0 10 rfl) ?_
      refine e_bipush (pc' := 22) (v := 10) (dAt D188 12 rfl) rfl (by decide) ?_
      refine e_iload_n (pc' := 23) (dAt D188 13 rfl) rfl rfl ?_
      refine e_imul (pc' := 24) (dAt D188 14 rfl) rfl ?_
      refine e_iload_n (pc' := 25) (dAt D188 15 rfl) rfl rfl ?_
      refine e_iadd (pc' := 26) (dAt D188 16 rfl) rfl ?_
      obtain ⟨f1, h⟩ := h
      refine e_iaload (pc' := 27) (dAt D188 17 rfl) rfl (hT.arr hOx0 10 rfl (by decide)).1 (Or.inl (hT.arr hOx0 10 rfl (by decide)).2) f1 rfl ?_
      refine e_aload_n (pc' := 28) (dAt D188 18 rfl) rfl rfl ?_
      refine e_getfield (pc' := 31) (dAt D188 19 rfl) rfl rfl hOx0 (hT.own hOx0 5 rfl) ?_
      refine e_iload_n (pc' := 32) (dAt D188 20 rfl) rfl rfl ?_
      obtain ⟨f1, h⟩ := h
      refine e_iaload (pc' := 33) (dAt D188 21 rfl) rfl (hT.arr hOx0 5 rfl (by decide)).1 (Or.inl (hT.arr hOx0 5 rfl (by decide)).2) f1 rfl ?_
      refine e_icmp_lt (t := 40) (pc' := 36) (dAt D188 22 rfl) ⟨by decide, by decide⟩ rfl (fun c => ?_) (fun c => ?_)
      · replace h := h.1 c
        refine e_iconst (pc' := 41) (v := 0) (dAt D188 25 rfl) rfl (by decide) ?_
        refine e_istore_n (pc' := 42) (dAt D188 26 rfl) rfl (Nat.le_of_ble_eq_true rfl) rfl ?_
        replace h := h _ rfl
        refine e_iinc (pc' := 45) (dAt D188 27 rfl) rfl rfl (Nat.le_of_ble_eq_true rfl) (congrArg (_ + ·) (show Int32.ofInt (1) = (1 : Int32) by decide)) rfl ?_
        refine e_goto (t := 4) (dAt D188 28 rfl) ⟨by decide, by decide⟩ ?_
        exact h
      · replace h := h.2 c
        refine e_iconst (pc' := 37) (v := 1) (dAt D188 23 rfl) rfl (by decide) ?_
        refine e_goto (t := 41) (dAt D188 24 rfl) ⟨by decide, by decide⟩ ?_
        refine e_istore_n (pc' := 42) (dAt D188 26 rfl) rfl (Nat.le_of_ble_eq_true rfl) rfl ?_
        replace h := h _ rfl
        refine e_iinc (pc' := 45) (dAt D188 27 rfl) rfl rfl (Nat.le_of_ble_eq_true rfl) (congrArg (_ + ·) (show Int32.ofInt (1) = (1 : Int32) by decide)) rfl ?_
        refine e_goto (t := 4) (dAt D188 28 rfl) ⟨by decide, by decide⟩ ?_
        exact h
-- PlaceNetsModel.reached.(II)I, from 0
set_option maxRecDepth 20000 in
theorem bk189_0 {d b : Nat} {Q : Option Value → mMem → Prop} {m : mMem} {x0 : Nat} {x1 : Int32} {x2 : Int32} {x3 : Option Value} (hT : mWT m) (hOx0 : m.1 x0 = some (.inr 8) ∧ x0 ≠ 0)
    (h : ∀ (m_1 : mMem), m_1 = (mSetF m x0 0 (.int 0)) → (((¬ x1 = ((-1))) → (((x1 < 0) → ((((iF m_1 x0 18) = 0) → (Q (some (.int ((-1)))) m_1)) ∧ (¬ ((iF m_1 x0 18) = 0) → (Q (some (.int ((-1)))) m_1)))) ∧ (¬ (x1 < 0) → (mEv d 161 [.ref x0, .int x2] m_1 (fun r m' => mEs d 189 b g189 (31, [some (.ref x0), some (.int x1), some (.int x2), x3], r.toList ++ [], m') Q))))) ∧ (¬ (¬ x1 = ((-1))) → (((¬ x2 = 0) → ((((iF m_1 x0 18) = 0) → (Q (some (.int ((-1)))) m_1)) ∧ (¬ ((iF m_1 x0 18) = 0) → (Q (some (.int ((-1)))) m_1)))) ∧ (¬ (¬ x2 = 0) → ((((iF m_1 x0 18) = 0) → (Q (some (.int ((-1)))) m_1)) ∧ (¬ ((iF m_1 x0 18) = 0) → (mEv d 190 [.ref x0] m_1 (fun r m' => mEs d 189 b g189 (71, [some (.ref x0), some (.int x1), some (.int x2), some (.int 1)], r.toList ++ [], m') Q))))))))) :
    mEs d 189 b g189 (0, [some (.ref x0), some (.int x1), some (.int x2), x3], [], m) Q := by
  refine e_aload_n (pc' := 1) (dAt D189 0 rfl) rfl rfl ?_
  refine e_iconst (pc' := 2) (v := 0) (dAt D189 1 rfl) rfl (by decide) ?_
  replace h := h _ rfl
  refine e_putfield (pc' := 5) (dAt D189 2 rfl) rfl rfl hOx0 rfl rfl (fun e => by cases e) ?_
  refine wtF hT hOx0 (by decide) (fun hT_2 => ?_)
  refine e_iload_n (pc' := 6) (dAt D189 3 rfl) rfl rfl ?_
  refine e_iconst (pc' := 7) (v := (-1)) (dAt D189 4 rfl) rfl (by decide) ?_
  refine e_icmp_ne (t := 22) (pc' := 10) (dAt D189 5 rfl) ⟨by decide, by decide⟩ rfl (fun c => ?_) (fun c => ?_)
  · replace h := h.1 c
    refine e_iload_n (pc' := 23) (dAt D189 12 rfl) rfl rfl ?_
    refine e_if_lt (t := 52) (pc' := 26) (dAt D189 13 rfl) ⟨by decide, by decide⟩ rfl (fun c => ?_) (fun c => ?_)
    · replace h := h.1 c
      refine e_iconst (pc' := 53) (v := 0) (dAt D189 26 rfl) rfl (by decide) ?_
      refine e_istore_n (pc' := 54) (dAt D189 27 rfl) rfl (Nat.le_of_ble_eq_true rfl) rfl ?_
      refine e_aload_n (pc' := 55) (dAt D189 28 rfl) rfl rfl ?_
      refine e_getfield (pc' := 58) (dAt D189 29 rfl) rfl rfl hOx0 (hT_2.int hOx0 18 (by decide)) ?_
      refine e_if_eq (t := 65) (pc' := 61) (dAt D189 30 rfl) ⟨by decide, by decide⟩ rfl (fun c => ?_) (fun c => ?_)
      · replace h := h.1 c
        refine e_iconst (pc' := 66) (v := (-1)) (dAt D189 33 rfl) rfl (by decide) ?_
        exact e_ireturn (dAt D189 34 rfl) rfl ⟨rfl, fun e => by cases e⟩ h
      · replace h := h.2 c
        refine e_iload_n (pc' := 62) (dAt D189 31 rfl) rfl rfl ?_
        refine e_if_ne (t := 67) (pc' := 65) (dAt D189 32 rfl) ⟨by decide, by decide⟩ rfl (fun c => absurd c (by decide)) (fun c => ?_)
        refine e_iconst (pc' := 66) (v := (-1)) (dAt D189 33 rfl) rfl (by decide) ?_
        exact e_ireturn (dAt D189 34 rfl) rfl ⟨rfl, fun e => by cases e⟩ h
    · replace h := h.2 c
      refine e_aload_n (pc' := 27) (dAt D189 14 rfl) rfl rfl ?_
      refine e_iload_n (pc' := 28) (dAt D189 15 rfl) rfl rfl ?_
      exact e_call2 h (dAt D189 16 rfl) (hi0 rfl) rfl G161 (by decide) rfl (Nat.le_of_ble_eq_true rfl) (kV hOx0 rfl rfl) rfl rfl
  · replace h := h.2 c
    refine e_iload_n (pc' := 11) (dAt D189 6 rfl) rfl rfl ?_
    refine e_if_ne (t := 18) (pc' := 14) (dAt D189 7 rfl) ⟨by decide, by decide⟩ rfl (fun c => ?_) (fun c => ?_)
    · replace h := h.1 c
      refine e_iconst (pc' := 19) (v := 0) (dAt D189 10 rfl) rfl (by decide) ?_
      refine e_goto (t := 53) (dAt D189 11 rfl) ⟨by decide, by decide⟩ ?_
      refine e_istore_n (pc' := 54) (dAt D189 27 rfl) rfl (Nat.le_of_ble_eq_true rfl) rfl ?_
      refine e_aload_n (pc' := 55) (dAt D189 28 rfl) rfl rfl ?_
      refine e_getfield (pc' := 58) (dAt D189 29 rfl) rfl rfl hOx0 (hT_2.int hOx0 18 (by decide)) ?_
      refine e_if_eq (t := 65) (pc' := 61) (dAt D189 30 rfl) ⟨by decide, by decide⟩ rfl (fun c => ?_) (fun c => ?_)
      · replace h := h.1 c
        refine e_iconst (pc' := 66) (v := (-1)) (dAt D189 33 rfl) rfl (by decide) ?_
        exact e_ireturn (dAt D189 34 rfl) rfl ⟨rfl, fun e => by cases e⟩ h
      · replace h := h.2 c
        refine e_iload_n (pc' := 62) (dAt D189 31 rfl) rfl rfl ?_
        refine e_if_ne (t := 67) (pc' := 65) (dAt D189 32 rfl) ⟨by decide, by decide⟩ rfl (fun c => absurd c (by decide)) (fun c => ?_)
        refine e_iconst (pc' := 66) (v := (-1)) (dAt D189 33 rfl) rfl (by decide) ?_
        exact e_ireturn (dAt D189 34 rfl) rfl ⟨rfl, fun e => by cases e⟩ h
    · replace h := h.2 c
      refine e_iconst (pc' := 15) (v := 1) (dAt D189 8 rfl) rfl (by decide) ?_
      refine e_goto (t := 53) (dAt D189 9 rfl) ⟨by decide, by decide⟩ ?_
      refine e_istore_n (pc' := 54) (dAt D189 27 rfl) rfl (Nat.le_of_ble_eq_true rfl) rfl ?_
      refine e_aload_n (pc' := 55) (dAt D189 28 rfl) rfl rfl ?_
      refine e_getfield (pc' := 58) (dAt D189 29 rfl) rfl rfl hOx0 (hT_2.int hOx0 18 (by decide)) ?_
      refine e_if_eq (t := 65) (pc' := 61) (dAt D189 30 rfl) ⟨by decide, by decide⟩ rfl (fun c => ?_) (fun c => ?_)
      · replace h := h.1 c
        refine e_iconst (pc' := 66) (v := (-1)) (dAt D189 33 rfl) rfl (by decide) ?_
        exact e_ireturn (dAt D189 34 rfl) rfl ⟨rfl, fun e => by cases e⟩ h
      · replace h := h.2 c
        refine e_iload_n (pc' := 62) (dAt D189 31 rfl) rfl rfl ?_
        refine e_if_ne (t := 67) (pc' := 65) (dAt D189 32 rfl) ⟨by decide, by decide⟩ rfl (fun c => ?_) (fun c => absurd (by decide) c)
        refine e_aload_n (pc' := 68) (dAt D189 35 rfl) rfl rfl ?_
        exact e_call2 h (dAt D189 36 rfl) (hi0 rfl) rfl G190 (by decide) rfl (Nat.le_of_ble_eq_true rfl) (kV hOx0 rfl rfl) rfl rfl
-- PlaceNetsModel.reached.(II)I, from 31
set_option maxRecDepth 20000 in
theorem bk189_31 {d b : Nat} {Q : Option Value → mMem → Prop} {m : mMem} {x0 : Nat} {x1 : Int32} {x2 : Int32} {x3 : Option Value} {y0 : Int32} (hT : mWT m) (hOx0 : m.1 x0 = some (.inr 8) ∧ x0 ≠ 0)
    (h : (((¬ y0 = 0) → ((((iF m x0 18) = 0) → (Q (some (.int ((-1)))) m)) ∧ (¬ ((iF m x0 18) = 0) → (mEv d 190 [.ref x0] m (fun r m' => mEs d 189 b g189 (71, [some (.ref x0), some (.int x1), some (.int x2), some (.int 1)], r.toList ++ [], m') Q))))) ∧ (¬ (¬ y0 = 0) → (mEv d 151 [.long x2.toInt64, .long 10, .long 11] m (fun r m' => mEs d 189 b g189 (45, [some (.ref x0), some (.int x1), some (.int x2), x3], r.toList ++ [], m') Q))))) :
    mEs d 189 b g189 (31, [some (.ref x0), some (.int x1), some (.int x2), x3], [.int y0], m) Q := by
  refine e_if_ne (t := 48) (pc' := 34) (dAt D189 17 rfl) ⟨by decide, by decide⟩ rfl (fun c => ?_) (fun c => ?_)
  · replace h := h.1 c
    refine e_iconst (pc' := 49) (v := 1) (dAt D189 24 rfl) rfl (by decide) ?_
    refine e_goto (t := 53) (dAt D189 25 rfl) ⟨by decide, by decide⟩ ?_
    refine e_istore_n (pc' := 54) (dAt D189 27 rfl) rfl (Nat.le_of_ble_eq_true rfl) rfl ?_
    refine e_aload_n (pc' := 55) (dAt D189 28 rfl) rfl rfl ?_
    refine e_getfield (pc' := 58) (dAt D189 29 rfl) rfl rfl hOx0 (hT.int hOx0 18 (by decide)) ?_
    refine e_if_eq (t := 65) (pc' := 61) (dAt D189 30 rfl) ⟨by decide, by decide⟩ rfl (fun c => ?_) (fun c => ?_)
    · replace h := h.1 c
      refine e_iconst (pc' := 66) (v := (-1)) (dAt D189 33 rfl) rfl (by decide) ?_
      exact e_ireturn (dAt D189 34 rfl) rfl ⟨rfl, fun e => by cases e⟩ h
    · replace h := h.2 c
      refine e_iload_n (pc' := 62) (dAt D189 31 rfl) rfl rfl ?_
      refine e_if_ne (t := 67) (pc' := 65) (dAt D189 32 rfl) ⟨by decide, by decide⟩ rfl (fun c => ?_) (fun c => absurd (by decide) c)
      refine e_aload_n (pc' := 68) (dAt D189 35 rfl) rfl rfl ?_
      exact e_call2 h (dAt D189 36 rfl) (hi0 rfl) rfl G190 (by decide) rfl (Nat.le_of_ble_eq_true rfl) (kV hOx0 rfl rfl) rfl rfl
  · replace h := h.2 c
    refine e_iload_n (pc' := 35) (dAt D189 18 rfl) rfl rfl ?_
    refine e_i2l (pc' := 36) (dAt D189 19 rfl) rfl ?_
    refine e_ldc2_w (pc' := 39) (dAt D189 20 rfl) rfl rfl ?_
    refine e_ldc2_w (pc' := 42) (dAt D189 21 rfl) rfl rfl ?_
    exact e_call2 h (dAt D189 22 rfl) (hi2 rfl) rfl G151 (by decide) rfl (Nat.le_of_ble_eq_true rfl) rfl rfl rfl
-- PlaceNetsModel.reached.(II)I, from 45
set_option maxRecDepth 20000 in
theorem bk189_45 {d b : Nat} {Q : Option Value → mMem → Prop} {m : mMem} {x0 : Nat} {x1 : Int32} {x2 : Int32} {x3 : Option Value} {y0 : Int32} (hT : mWT m) (hOx0 : m.1 x0 = some (.inr 8) ∧ x0 ≠ 0)
    (h : (((y0 = 0) → ((((iF m x0 18) = 0) → (Q (some (.int ((-1)))) m)) ∧ (¬ ((iF m x0 18) = 0) → (Q (some (.int ((-1)))) m)))) ∧ (¬ (y0 = 0) → ((((iF m x0 18) = 0) → (Q (some (.int ((-1)))) m)) ∧ (¬ ((iF m x0 18) = 0) → (mEv d 190 [.ref x0] m (fun r m' => mEs d 189 b g189 (71, [some (.ref x0), some (.int x1), some (.int x2), some (.int 1)], r.toList ++ [], m') Q))))))) :
    mEs d 189 b g189 (45, [some (.ref x0), some (.int x1), some (.int x2), x3], [.int y0], m) Q := by
  refine e_if_eq (t := 52) (pc' := 48) (dAt D189 23 rfl) ⟨by decide, by decide⟩ rfl (fun c => ?_) (fun c => ?_)
  · replace h := h.1 c
    refine e_iconst (pc' := 53) (v := 0) (dAt D189 26 rfl) rfl (by decide) ?_
    refine e_istore_n (pc' := 54) (dAt D189 27 rfl) rfl (Nat.le_of_ble_eq_true rfl) rfl ?_
    refine e_aload_n (pc' := 55) (dAt D189 28 rfl) rfl rfl ?_
    refine e_getfield (pc' := 58) (dAt D189 29 rfl) rfl rfl hOx0 (hT.int hOx0 18 (by decide)) ?_
    refine e_if_eq (t := 65) (pc' := 61) (dAt D189 30 rfl) ⟨by decide, by decide⟩ rfl (fun c => ?_) (fun c => ?_)
    · replace h := h.1 c
      refine e_iconst (pc' := 66) (v := (-1)) (dAt D189 33 rfl) rfl (by decide) ?_
      exact e_ireturn (dAt D189 34 rfl) rfl ⟨rfl, fun e => by cases e⟩ h
    · replace h := h.2 c
      refine e_iload_n (pc' := 62) (dAt D189 31 rfl) rfl rfl ?_
      refine e_if_ne (t := 67) (pc' := 65) (dAt D189 32 rfl) ⟨by decide, by decide⟩ rfl (fun c => absurd c (by decide)) (fun c => ?_)
      refine e_iconst (pc' := 66) (v := (-1)) (dAt D189 33 rfl) rfl (by decide) ?_
      exact e_ireturn (dAt D189 34 rfl) rfl ⟨rfl, fun e => by cases e⟩ h
  · replace h := h.2 c
    refine e_iconst (pc' := 49) (v := 1) (dAt D189 24 rfl) rfl (by decide) ?_
    refine e_goto (t := 53) (dAt D189 25 rfl) ⟨by decide, by decide⟩ ?_
    refine e_istore_n (pc' := 54) (dAt D189 27 rfl) rfl (Nat.le_of_ble_eq_true rfl) rfl ?_
    refine e_aload_n (pc' := 55) (dAt D189 28 rfl) rfl rfl ?_
    refine e_getfield (pc' := 58) (dAt D189 29 rfl) rfl rfl hOx0 (hT.int hOx0 18 (by decide)) ?_
    refine e_if_eq (t := 65) (pc' := 61) (dAt D189 30 rfl) ⟨by decide, by decide⟩ rfl (fun c => ?_) (fun c => ?_)
    · replace h := h.1 c
      refine e_iconst (pc' := 66) (v := (-1)) (dAt D189 33 rfl) rfl (by decide) ?_
      exact e_ireturn (dAt D189 34 rfl) rfl ⟨rfl, fun e => by cases e⟩ h
    · replace h := h.2 c
      refine e_iload_n (pc' := 62) (dAt D189 31 rfl) rfl rfl ?_
      refine e_if_ne (t := 67) (pc' := 65) (dAt D189 32 rfl) ⟨by decide, by decide⟩ rfl (fun c => ?_) (fun c => absurd (by decide) c)
      refine e_aload_n (pc' := 68) (dAt D189 35 rfl) rfl rfl ?_
      exact e_call2 h (dAt D189 36 rfl) (hi0 rfl) rfl G190 (by decide) rfl (Nat.le_of_ble_eq_true rfl) (kV hOx0 rfl rfl) rfl rfl
-- PlaceNetsModel.reached.(II)I, from 71
set_option maxRecDepth 20000 in
theorem bk189_71 {d b : Nat} {Q : Option Value → mMem → Prop} {m : mMem} {x0 : Nat} {x1 : Int32} {x2 : Int32} {x3 : Int32} (hT : mWT m) (hOx0 : m.1 x0 = some (.inr 8) ∧ x0 ≠ 0)
    (h : ((((iF m x0 33) ≤ 300) → (((x1 = ((-1))) → (((¬ x1 = ((-1))) → (Q (some (.int ((-1)))) m)) ∧ (¬ (¬ x1 = ((-1))) → (Q (some (.int (iF m x0 33))) m)))) ∧ (¬ (x1 = ((-1))) → (((x1 < (iF m x0 33)) → (((¬ x2 = 10) → (((¬ x2 = 11) → ((mIn ((10 * x1) + x2) 3010 = true) ∧ (Q (some (.int (m.2.2.1 (64 * x0 + 15) ((10 * x1) + x2).toNatClampNeg))) m))) ∧ (¬ (¬ x2 = 11) → ((mIn x1 301 = true) ∧ (Q (some (.int (m.2.2.1 (64 * x0 + 18) x1.toNatClampNeg))) m))))) ∧ (¬ (¬ x2 = 10) → (mEv d 166 [.ref x0, .ref (64 * x0 + 15), .int (10 * x1)] m (fun r m' => mEs d 189 b g189 (129, [some (.ref x0), some (.int x1), some (.int x2), some (.int x3)], r.toList ++ [], m') Q))))) ∧ (¬ (x1 < (iF m x0 33)) → (((¬ x1 = ((-1))) → (Q (some (.int ((-1)))) m)) ∧ (¬ (¬ x1 = ((-1))) → (Q (some (.int (iF m x0 33))) m)))))))) ∧ (¬ ((iF m x0 33) ≤ 300) → (Q (some (.int ((-2)))) m)))) :
    mEs d 189 b g189 (71, [some (.ref x0), some (.int x1), some (.int x2), some (.int x3)], [], m) Q := by
  refine e_aload_n (pc' := 72) (dAt D189 37 rfl) rfl rfl ?_
  refine e_getfield (pc' := 75) (dAt D189 38 rfl) rfl rfl hOx0 (hT.int hOx0 33 (by decide)) ?_
  refine e_sipush (pc' := 78) (v := 300) (dAt D189 39 rfl) rfl (by decide) ?_
  refine e_icmp_le (t := 84) (pc' := 81) (dAt D189 40 rfl) ⟨by decide, by decide⟩ rfl (fun c => ?_) (fun c => ?_)
  · replace h := h.1 c
    refine e_iload_n (pc' := 85) (dAt D189 43 rfl) rfl rfl ?_
    refine e_iconst (pc' := 86) (v := (-1)) (dAt D189 44 rfl) rfl (by decide) ?_
    refine e_icmp_eq (t := 97) (pc' := 89) (dAt D189 45 rfl) ⟨by decide, by decide⟩ rfl (fun c => ?_) (fun c => ?_)
    · replace h := h.1 c
      refine e_iload_n (pc' := 98) (dAt D189 50 rfl) rfl rfl ?_
      refine e_iconst (pc' := 99) (v := (-1)) (dAt D189 51 rfl) rfl (by decide) ?_
      refine e_icmp_ne (t := 109) (pc' := 102) (dAt D189 52 rfl) ⟨by decide, by decide⟩ rfl (fun c => ?_) (fun c => ?_)
      · replace h := h.1 c
        refine e_iconst (pc' := 110) (v := (-1)) (dAt D189 56 rfl) rfl (by decide) ?_
        exact e_ireturn (dAt D189 57 rfl) rfl ⟨rfl, fun e => by cases e⟩ h
      · replace h := h.2 c
        refine e_aload_n (pc' := 103) (dAt D189 53 rfl) rfl rfl ?_
        refine e_getfield (pc' := 106) (dAt D189 54 rfl) rfl rfl hOx0 (hT.int hOx0 33 (by decide)) ?_
        refine e_goto (t := 110) (dAt D189 55 rfl) ⟨by decide, by decide⟩ ?_
        exact e_ireturn (dAt D189 57 rfl) rfl ⟨rfl, fun e => by cases e⟩ h
    · replace h := h.2 c
      refine e_iload_n (pc' := 90) (dAt D189 46 rfl) rfl rfl ?_
      refine e_aload_n (pc' := 91) (dAt D189 47 rfl) rfl rfl ?_
      refine e_getfield (pc' := 94) (dAt D189 48 rfl) rfl rfl hOx0 (hT.int hOx0 33 (by decide)) ?_
      refine e_icmp_lt (t := 111) (pc' := 97) (dAt D189 49 rfl) ⟨by decide, by decide⟩ rfl (fun c => ?_) (fun c => ?_)
      · replace h := h.1 c
        refine e_iload_n (pc' := 112) (dAt D189 58 rfl) rfl rfl ?_
        refine e_bipush (pc' := 114) (v := 10) (dAt D189 59 rfl) rfl (by decide) ?_
        refine e_icmp_ne (t := 132) (pc' := 117) (dAt D189 60 rfl) ⟨by decide, by decide⟩ rfl (fun c => ?_) (fun c => ?_)
        · replace h := h.1 c
          refine e_iload_n (pc' := 133) (dAt D189 69 rfl) rfl rfl ?_
          refine e_bipush (pc' := 135) (v := 11) (dAt D189 70 rfl) rfl (by decide) ?_
          refine e_icmp_ne (t := 147) (pc' := 138) (dAt D189 71 rfl) ⟨by decide, by decide⟩ rfl (fun c => ?_) (fun c => ?_)
          · replace h := h.1 c
            refine e_aload_n (pc' := 148) (dAt D189 77 rfl) rfl rfl ?_
            refine e_getfield (pc' := 151) (dAt D189 78 rfl) rfl rfl hOx0 (hT.own hOx0 14 rfl) ?_
            refine e_bipush (pc' := 153) (v := 10) (dAt D189 79 rfl) rfl (by decide) ?_
            refine e_iload_n (pc' := 154) (dAt D189 80 rfl) rfl rfl ?_
            refine e_imul (pc' := 155) (dAt D189 81 rfl) rfl ?_
            refine e_iload_n (pc' := 156) (dAt D189 82 rfl) rfl rfl ?_
            refine e_iadd (pc' := 157) (dAt D189 83 rfl) rfl ?_
            obtain ⟨f1, h⟩ := h
            refine e_iaload (pc' := 158) (dAt D189 84 rfl) rfl (hT.arr hOx0 14 rfl (by decide)).1 (Or.inl (hT.arr hOx0 14 rfl (by decide)).2) f1 rfl ?_
            exact e_ireturn (dAt D189 85 rfl) rfl ⟨rfl, fun e => by cases e⟩ h
          · replace h := h.2 c
            refine e_aload_n (pc' := 139) (dAt D189 72 rfl) rfl rfl ?_
            refine e_getfield (pc' := 142) (dAt D189 73 rfl) rfl rfl hOx0 (hT.own hOx0 17 rfl) ?_
            refine e_iload_n (pc' := 143) (dAt D189 74 rfl) rfl rfl ?_
            obtain ⟨f1, h⟩ := h
            refine e_iaload (pc' := 144) (dAt D189 75 rfl) rfl (hT.arr hOx0 17 rfl (by decide)).1 (Or.inl (hT.arr hOx0 17 rfl (by decide)).2) f1 rfl ?_
            refine e_goto (t := 158) (dAt D189 76 rfl) ⟨by decide, by decide⟩ ?_
            exact e_ireturn (dAt D189 85 rfl) rfl ⟨rfl, fun e => by cases e⟩ h
        · replace h := h.2 c
          refine e_aload_n (pc' := 118) (dAt D189 61 rfl) rfl rfl ?_
          refine e_aload_n (pc' := 119) (dAt D189 62 rfl) rfl rfl ?_
          refine e_getfield (pc' := 122) (dAt D189 63 rfl) rfl rfl hOx0 (hT.own hOx0 14 rfl) ?_
          refine e_bipush (pc' := 124) (v := 10) (dAt D189 64 rfl) rfl (by decide) ?_
          refine e_iload_n (pc' := 125) (dAt D189 65 rfl) rfl rfl ?_
          refine e_imul (pc' := 126) (dAt D189 66 rfl) rfl ?_
          exact e_call2 h (dAt D189 67 rfl) (hi0 rfl) rfl G166 (by decide) rfl (Nat.le_of_ble_eq_true rfl) (kV hOx0 rfl rfl) rfl rfl
      · replace h := h.2 c
        refine e_iload_n (pc' := 98) (dAt D189 50 rfl) rfl rfl ?_
        refine e_iconst (pc' := 99) (v := (-1)) (dAt D189 51 rfl) rfl (by decide) ?_
        refine e_icmp_ne (t := 109) (pc' := 102) (dAt D189 52 rfl) ⟨by decide, by decide⟩ rfl (fun c => ?_) (fun c => ?_)
        · replace h := h.1 c
          refine e_iconst (pc' := 110) (v := (-1)) (dAt D189 56 rfl) rfl (by decide) ?_
          exact e_ireturn (dAt D189 57 rfl) rfl ⟨rfl, fun e => by cases e⟩ h
        · replace h := h.2 c
          refine e_aload_n (pc' := 103) (dAt D189 53 rfl) rfl rfl ?_
          refine e_getfield (pc' := 106) (dAt D189 54 rfl) rfl rfl hOx0 (hT.int hOx0 33 (by decide)) ?_
          refine e_goto (t := 110) (dAt D189 55 rfl) ⟨by decide, by decide⟩ ?_
          exact e_ireturn (dAt D189 57 rfl) rfl ⟨rfl, fun e => by cases e⟩ h
  · replace h := h.2 c
    refine e_bipush (pc' := 83) (v := (-2)) (dAt D189 41 rfl) rfl (by decide) ?_
    exact e_ireturn (dAt D189 42 rfl) rfl ⟨rfl, fun e => by cases e⟩ h
-- PlaceNetsModel.reached.(II)I, from 129
set_option maxRecDepth 20000 in
theorem bk189_129 {d b : Nat} {Q : Option Value → mMem → Prop} {m : mMem} {x0 : Nat} {x1 : Int32} {x2 : Int32} {x3 : Int32} {y0 : Int32} (hT : mWT m) (hOx0 : m.1 x0 = some (.inr 8) ∧ x0 ≠ 0)
    (h : Q (some (.int y0)) m) :
    mEs d 189 b g189 (129, [some (.ref x0), some (.int x1), some (.int x2), some (.int x3)], [.int y0], m) Q := by
  refine e_goto (t := 158) (dAt D189 68 rfl) ⟨by decide, by decide⟩ ?_
  exact e_ireturn (dAt D189 85 rfl) rfl ⟨rfl, fun e => by cases e⟩ h
-- PlaceNetsModel.reach.()V, from 0
set_option maxRecDepth 20000 in
theorem bk190_0 {d b : Nat} {Q : Option Value → mMem → Prop} {m : mMem} {x0 : Nat} {x1 : Option Value} {x2 : Option Value} (hT : mWT m) (hOx0 : m.1 x0 = some (.inr 8) ∧ x0 ≠ 0)
    (h : ((((iF m x0 27) = 0) → (∀ (m_1 : mMem), m_1 = (mSetF m x0 27 (.int 1)) → ∀ (m_3 : mMem), m_3 = (mSetF m_1 x0 33 (.int 1)) → mEs d 190 b g190 (20, [some (.ref x0), some (.int 0), x2], [], m_3) Q)) ∧ (¬ ((iF m x0 27) = 0) → (Q none m)))) :
    mEs d 190 b g190 (0, [some (.ref x0), x1, x2], [], m) Q := by
  refine e_aload_n (pc' := 1) (dAt D190 0 rfl) rfl rfl ?_
  refine e_getfield (pc' := 4) (dAt D190 1 rfl) rfl rfl hOx0 (hT.int hOx0 27 (by decide)) ?_
  refine e_if_eq (t := 8) (pc' := 7) (dAt D190 2 rfl) ⟨by decide, by decide⟩ rfl (fun c => ?_) (fun c => ?_)
  · replace h := h.1 c
    refine e_aload_n (pc' := 9) (dAt D190 4 rfl) rfl rfl ?_
    refine e_iconst (pc' := 10) (v := 1) (dAt D190 5 rfl) rfl (by decide) ?_
    replace h := h _ rfl
    refine e_putfield (pc' := 13) (dAt D190 6 rfl) rfl rfl hOx0 rfl rfl (fun e => by cases e) ?_
    refine wtF hT hOx0 (by decide) (fun hT_2 => ?_)
    refine e_aload_n (pc' := 14) (dAt D190 7 rfl) rfl rfl ?_
    refine e_iconst (pc' := 15) (v := 1) (dAt D190 8 rfl) rfl (by decide) ?_
    replace h := h _ rfl
    refine e_putfield (pc' := 18) (dAt D190 9 rfl) rfl rfl hOx0 rfl rfl (fun e => by cases e) ?_
    refine wtF hT_2 hOx0 (by decide) (fun hT_4 => ?_)
    refine e_iconst (pc' := 19) (v := 0) (dAt D190 10 rfl) rfl (by decide) ?_
    refine e_istore_n (pc' := 20) (dAt D190 11 rfl) rfl (Nat.le_of_ble_eq_true rfl) rfl ?_
    exact h
  · replace h := h.2 c
    exact e_return (dAt D190 3 rfl) rfl h
-- PlaceNetsModel.reach.()V, from 20
set_option maxRecDepth 20000 in
theorem bk190_20 {d b : Nat} {Q : Option Value → mMem → Prop} {m : mMem} {x0 : Nat} {x1 : Int32} {x2 : Option Value} (hT : mWT m) (hOx0 : m.1 x0 = some (.inr 8) ∧ x0 ≠ 0)
    (h : (((10 ≤ x1) → ((mIn 0 301 = true) ∧ (∀ (m_1 : mMem), m_1 = (mSetI m (64 * x0 + 16) (upd (m.2.2.1 (64 * x0 + 16)) (0 : Int32).toNatClampNeg ((-1)))) → (mIn 0 301 = true) ∧ (∀ (m_3 : mMem), m_3 = (mSetI m_1 (64 * x0 + 17) (upd (m_1.2.2.1 (64 * x0 + 17)) (0 : Int32).toNatClampNeg ((-1)))) → (mIn 0 301 = true) ∧ (∀ (m_5 : mMem), m_5 = (mSetI m_3 (64 * x0 + 18) (upd (m_3.2.2.1 (64 * x0 + 18)) (0 : Int32).toNatClampNeg 0)) → mEs d 190 b g190 (67, [some (.ref x0), some (.int 0), x2], [], m_5) Q))))) ∧ (¬ (10 ≤ x1) → ((mIn x1 10 = true) ∧ ((mIn x1 3010 = true) ∧ (∀ (m_7 : mMem), m_7 = (mSetI m (64 * x0 + 15) (upd (m.2.2.1 (64 * x0 + 15)) x1.toNatClampNeg (m.2.2.1 (64 * x0 + 4) x1.toNatClampNeg))) → ∀ (v_9 : Int32), v_9 = (x1 + 1) → mEs d 190 b g190 (20, [some (.ref x0), some (.int v_9), x2], [], m_7) Q)))))) :
    mEs d 190 b g190 (20, [some (.ref x0), some (.int x1), x2], [], m) Q := by
  refine e_iload_n (pc' := 21) (dAt D190 12 rfl) rfl rfl ?_
  refine e_bipush (pc' := 23) (v := 10) (dAt D190 13 rfl) rfl (by decide) ?_
  refine e_icmp_ge (t := 44) (pc' := 26) (dAt D190 14 rfl) ⟨by decide, by decide⟩ rfl (fun c => ?_) (fun c => ?_)
  · replace h := h.1 c
    refine e_aload_n (pc' := 45) (dAt D190 25 rfl) rfl rfl ?_
    refine e_getfield (pc' := 48) (dAt D190 26 rfl) rfl rfl hOx0 (hT.own hOx0 15 rfl) ?_
    refine e_iconst (pc' := 49) (v := 0) (dAt D190 27 rfl) rfl (by decide) ?_
    refine e_iconst (pc' := 50) (v := (-1)) (dAt D190 28 rfl) rfl (by decide) ?_
    obtain ⟨f1, h⟩ := h
    replace h := h _ rfl
    refine e_iastore (pc' := 51) (dAt D190 29 rfl) rfl (hT.arr hOx0 15 rfl (by decide)).1 (hT.arr hOx0 15 rfl (by decide)).2 f1 (nar_i _) ?_
    refine wtI hT (fun hT_2 => ?_)
    refine e_aload_n (pc' := 52) (dAt D190 30 rfl) rfl rfl ?_
    refine e_getfield (pc' := 55) (dAt D190 31 rfl) rfl rfl hOx0 (hT_2.own hOx0 16 rfl) ?_
    refine e_iconst (pc' := 56) (v := 0) (dAt D190 32 rfl) rfl (by decide) ?_
    refine e_iconst (pc' := 57) (v := (-1)) (dAt D190 33 rfl) rfl (by decide) ?_
    obtain ⟨f1, h⟩ := h
    replace h := h _ rfl
    refine e_iastore (pc' := 58) (dAt D190 34 rfl) rfl (hT_2.arr hOx0 16 rfl (by decide)).1 (hT_2.arr hOx0 16 rfl (by decide)).2 f1 (nar_i _) ?_
    refine wtI hT_2 (fun hT_4 => ?_)
    refine e_aload_n (pc' := 59) (dAt D190 35 rfl) rfl rfl ?_
    refine e_getfield (pc' := 62) (dAt D190 36 rfl) rfl rfl hOx0 (hT_4.own hOx0 17 rfl) ?_
    refine e_iconst (pc' := 63) (v := 0) (dAt D190 37 rfl) rfl (by decide) ?_
    refine e_iconst (pc' := 64) (v := 0) (dAt D190 38 rfl) rfl (by decide) ?_
    obtain ⟨f1, h⟩ := h
    replace h := h _ rfl
    refine e_iastore (pc' := 65) (dAt D190 39 rfl) rfl (hT_4.arr hOx0 17 rfl (by decide)).1 (hT_4.arr hOx0 17 rfl (by decide)).2 f1 (nar_i _) ?_
    refine wtI hT_4 (fun hT_6 => ?_)
    refine e_iconst (pc' := 66) (v := 0) (dAt D190 40 rfl) rfl (by decide) ?_
    refine e_istore_n (pc' := 67) (dAt D190 41 rfl) rfl (Nat.le_of_ble_eq_true rfl) rfl ?_
    exact h
  · replace h := h.2 c
    refine e_aload_n (pc' := 27) (dAt D190 15 rfl) rfl rfl ?_
    refine e_getfield (pc' := 30) (dAt D190 16 rfl) rfl rfl hOx0 (hT.own hOx0 14 rfl) ?_
    refine e_iload_n (pc' := 31) (dAt D190 17 rfl) rfl rfl ?_
    refine e_aload_n (pc' := 32) (dAt D190 18 rfl) rfl rfl ?_
    refine e_getfield (pc' := 35) (dAt D190 19 rfl) rfl rfl hOx0 (hT.own hOx0 3 rfl) ?_
    refine e_iload_n (pc' := 36) (dAt D190 20 rfl) rfl rfl ?_
    obtain ⟨f1, h⟩ := h
    refine e_iaload (pc' := 37) (dAt D190 21 rfl) rfl (hT.arr hOx0 3 rfl (by decide)).1 (Or.inl (hT.arr hOx0 3 rfl (by decide)).2) f1 rfl ?_
    obtain ⟨f1, h⟩ := h
    replace h := h _ rfl
    refine e_iastore (pc' := 38) (dAt D190 22 rfl) rfl (hT.arr hOx0 14 rfl (by decide)).1 (hT.arr hOx0 14 rfl (by decide)).2 f1 (nar_i _) ?_
    refine wtI hT (fun hT_8 => ?_)
    replace h := h _ rfl
    refine e_iinc (pc' := 41) (dAt D190 23 rfl) rfl rfl (Nat.le_of_ble_eq_true rfl) (congrArg (_ + ·) (show Int32.ofInt (1) = (1 : Int32) by decide)) rfl ?_
    refine e_goto (t := 20) (dAt D190 24 rfl) ⟨by decide, by decide⟩ ?_
    exact h
-- PlaceNetsModel.reach.()V, from 67
set_option maxRecDepth 20000 in
theorem bk190_67 {d b : Nat} {Q : Option Value → mMem → Prop} {m : mMem} {x0 : Nat} {x1 : Int32} {x2 : Option Value} (hT : mWT m) (hOx0 : m.1 x0 = some (.inr 8) ∧ x0 ≠ 0)
    (h : ((((iF m x0 33) ≤ x1) → (Q none m)) ∧ (¬ ((iF m x0 33) ≤ x1) → (((300 < (iF m x0 33)) → (Q none m)) ∧ (¬ (300 < (iF m x0 33)) → (mEs d 190 b g190 (87, [some (.ref x0), some (.int x1), some (.int 0)], [], m) Q)))))) :
    mEs d 190 b g190 (67, [some (.ref x0), some (.int x1), x2], [], m) Q := by
  refine e_iload_n (pc' := 68) (dAt D190 42 rfl) rfl rfl ?_
  refine e_aload_n (pc' := 69) (dAt D190 43 rfl) rfl rfl ?_
  refine e_getfield (pc' := 72) (dAt D190 44 rfl) rfl rfl hOx0 (hT.int hOx0 33 (by decide)) ?_
  refine e_icmp_ge (t := 153) (pc' := 75) (dAt D190 45 rfl) ⟨by decide, by decide⟩ rfl (fun c => ?_) (fun c => ?_)
  · replace h := h.1 c
    exact e_return (dAt D190 87 rfl) rfl h
  · replace h := h.2 c
    refine e_aload_n (pc' := 76) (dAt D190 46 rfl) rfl rfl ?_
    refine e_getfield (pc' := 79) (dAt D190 47 rfl) rfl rfl hOx0 (hT.int hOx0 33 (by decide)) ?_
    refine e_sipush (pc' := 82) (v := 300) (dAt D190 48 rfl) rfl (by decide) ?_
    refine e_icmp_gt (t := 153) (pc' := 85) (dAt D190 49 rfl) ⟨by decide, by decide⟩ rfl (fun c => ?_) (fun c => ?_)
    · replace h := h.1 c
      exact e_return (dAt D190 87 rfl) rfl h
    · replace h := h.2 c
      refine e_iconst (pc' := 86) (v := 0) (dAt D190 50 rfl) rfl (by decide) ?_
      refine e_istore_n (pc' := 87) (dAt D190 51 rfl) rfl (Nat.le_of_ble_eq_true rfl) rfl ?_
      exact h
-- PlaceNetsModel.reach.()V, from 87
set_option maxRecDepth 20000 in
theorem bk190_87 {d b : Nat} {Q : Option Value → mMem → Prop} {m : mMem} {x0 : Nat} {x1 : Int32} {x2 : Int32} (hT : mWT m) (hOx0 : m.1 x0 = some (.inr 8) ∧ x0 ≠ 0)
    (h : ((((iF m x0 7) ≤ x2) → (∀ (v_1 : Int32), v_1 = (x1 + 1) → mEs d 190 b g190 (67, [some (.ref x0), some (.int v_1), some (.int x2)], [], m) Q)) ∧ (¬ ((iF m x0 7) ≤ x2) → (((300 < (iF m x0 33)) → (∀ (v_2 : Int32), v_2 = (x1 + 1) → mEs d 190 b g190 (67, [some (.ref x0), some (.int v_2), some (.int x2)], [], m) Q)) ∧ (¬ (300 < (iF m x0 33)) → ((mIn ((10 * x1) + x2) 3010 = true) ∧ (∀ (m_3 : mMem), m_3 = (mSetI m (64 * x0 + 19) (upd (m.2.2.1 (64 * x0 + 19)) ((10 * x1) + x2).toNatClampNeg ((-1)))) → mEv d 167 [.ref x0, .ref (64 * x0 + 15), .int (10 * x1), .int x2, .int 99] m_3 (fun r m' => mEs d 190 b g190 (132, [some (.ref x0), some (.int x1), some (.int x2)], r.toList ++ [], m') Q)))))))) :
    mEs d 190 b g190 (87, [some (.ref x0), some (.int x1), some (.int x2)], [], m) Q := by
  refine e_iload_n (pc' := 88) (dAt D190 52 rfl) rfl rfl ?_
  refine e_aload_n (pc' := 89) (dAt D190 53 rfl) rfl rfl ?_
  refine e_getfield (pc' := 92) (dAt D190 54 rfl) rfl rfl hOx0 (hT.int hOx0 7 (by decide)) ?_
  refine e_icmp_ge (t := 147) (pc' := 95) (dAt D190 55 rfl) ⟨by decide, by decide⟩ rfl (fun c => ?_) (fun c => ?_)
  · replace h := h.1 c
    replace h := h _ rfl
    refine e_iinc (pc' := 150) (dAt D190 85 rfl) rfl rfl (Nat.le_of_ble_eq_true rfl) (congrArg (_ + ·) (show Int32.ofInt (1) = (1 : Int32) by decide)) rfl ?_
    refine e_goto (t := 67) (dAt D190 86 rfl) ⟨by decide, by decide⟩ ?_
    exact h
  · replace h := h.2 c
    refine e_aload_n (pc' := 96) (dAt D190 56 rfl) rfl rfl ?_
    refine e_getfield (pc' := 99) (dAt D190 57 rfl) rfl rfl hOx0 (hT.int hOx0 33 (by decide)) ?_
    refine e_sipush (pc' := 102) (v := 300) (dAt D190 58 rfl) rfl (by decide) ?_
    refine e_icmp_gt (t := 147) (pc' := 105) (dAt D190 59 rfl) ⟨by decide, by decide⟩ rfl (fun c => ?_) (fun c => ?_)
    · replace h := h.1 c
      replace h := h _ rfl
      refine e_iinc (pc' := 150) (dAt D190 85 rfl) rfl rfl (Nat.le_of_ble_eq_true rfl) (congrArg (_ + ·) (show Int32.ofInt (1) = (1 : Int32) by decide)) rfl ?_
      refine e_goto (t := 67) (dAt D190 86 rfl) ⟨by decide, by decide⟩ ?_
      exact h
    · replace h := h.2 c
      refine e_aload_n (pc' := 106) (dAt D190 60 rfl) rfl rfl ?_
      refine e_getfield (pc' := 109) (dAt D190 61 rfl) rfl rfl hOx0 (hT.own hOx0 18 rfl) ?_
      refine e_bipush (pc' := 111) (v := 10) (dAt D190 62 rfl) rfl (by decide) ?_
      refine e_iload_n (pc' := 112) (dAt D190 63 rfl) rfl rfl ?_
      refine e_imul (pc' := 113) (dAt D190 64 rfl) rfl ?_
      refine e_iload_n (pc' := 114) (dAt D190 65 rfl) rfl rfl ?_
      refine e_iadd (pc' := 115) (dAt D190 66 rfl) rfl ?_
      refine e_iconst (pc' := 116) (v := (-1)) (dAt D190 67 rfl) rfl (by decide) ?_
      obtain ⟨f1, h⟩ := h
      replace h := h _ rfl
      refine e_iastore (pc' := 117) (dAt D190 68 rfl) rfl (hT.arr hOx0 18 rfl (by decide)).1 (hT.arr hOx0 18 rfl (by decide)).2 f1 (nar_i _) ?_
      refine wtI hT (fun hT_4 => ?_)
      refine e_aload_n (pc' := 118) (dAt D190 69 rfl) rfl rfl ?_
      refine e_aload_n (pc' := 119) (dAt D190 70 rfl) rfl rfl ?_
      refine e_getfield (pc' := 122) (dAt D190 71 rfl) rfl rfl hOx0 (hT_4.own hOx0 14 rfl) ?_
      refine e_bipush (pc' := 124) (v := 10) (dAt D190 72 rfl) rfl (by decide) ?_
      refine e_iload_n (pc' := 125) (dAt D190 73 rfl) rfl rfl ?_
      refine e_imul (pc' := 126) (dAt D190 74 rfl) rfl ?_
      refine e_iload_n (pc' := 127) (dAt D190 75 rfl) rfl rfl ?_
      refine e_bipush (pc' := 129) (v := 99) (dAt D190 76 rfl) rfl (by decide) ?_
      exact e_call2 h (dAt D190 77 rfl) (hi0 rfl) rfl G167 (by decide) rfl (Nat.le_of_ble_eq_true rfl) (kV hOx0 rfl rfl) rfl rfl
-- PlaceNetsModel.reach.()V, from 132
set_option maxRecDepth 20000 in
theorem bk190_132 {d b : Nat} {Q : Option Value → mMem → Prop} {m : mMem} {x0 : Nat} {x1 : Int32} {x2 : Int32} {y0 : Int32} (hT : mWT m) (hOx0 : m.1 x0 = some (.inr 8) ∧ x0 ≠ 0)
    (h : (((y0 = 0) → (mEs d 190 b g190 (141, [some (.ref x0), some (.int x1), some (.int x2)], [], m) Q)) ∧ (¬ (y0 = 0) → (mEv d 191 [.ref x0, .int x1, .int x2] m (fun r m' => mEs d 190 b g190 (141, [some (.ref x0), some (.int x1), some (.int x2)], r.toList ++ [], m') Q))))) :
    mEs d 190 b g190 (132, [some (.ref x0), some (.int x1), some (.int x2)], [.int y0], m) Q := by
  refine e_if_eq (t := 141) (pc' := 135) (dAt D190 78 rfl) ⟨by decide, by decide⟩ rfl (fun c => ?_) (fun c => ?_)
  · replace h := h.1 c
    exact h
  · replace h := h.2 c
    refine e_aload_n (pc' := 136) (dAt D190 79 rfl) rfl rfl ?_
    refine e_iload_n (pc' := 137) (dAt D190 80 rfl) rfl rfl ?_
    refine e_iload_n (pc' := 138) (dAt D190 81 rfl) rfl rfl ?_
    exact e_call2 h (dAt D190 82 rfl) (hi0 rfl) rfl G191 (by decide) rfl (Nat.le_of_ble_eq_true rfl) (kV hOx0 rfl rfl) rfl rfl
-- PlaceNetsModel.reach.()V, from 141
set_option maxRecDepth 20000 in
theorem bk190_141 {d b : Nat} {Q : Option Value → mMem → Prop} {m : mMem} {x0 : Nat} {x1 : Int32} {x2 : Int32} (hT : mWT m) (hOx0 : m.1 x0 = some (.inr 8) ∧ x0 ≠ 0)
    (h : ∀ (v_1 : Int32), v_1 = (x2 + 1) → mEs d 190 b g190 (87, [some (.ref x0), some (.int x1), some (.int v_1)], [], m) Q) :
    mEs d 190 b g190 (141, [some (.ref x0), some (.int x1), some (.int x2)], [], m) Q := by
  replace h := h _ rfl
  refine e_iinc (pc' := 144) (dAt D190 83 rfl) rfl rfl (Nat.le_of_ble_eq_true rfl) (congrArg (_ + ·) (show Int32.ofInt (1) = (1 : Int32) by decide)) rfl ?_
  refine e_goto (t := 87) (dAt D190 84 rfl) ⟨by decide, by decide⟩ ?_
  exact h
-- PlaceNetsModel.goFrom.(II)V, from 0
set_option maxRecDepth 20000 in
theorem bk191_0 {d b : Nat} {Q : Option Value → mMem → Prop} {m : mMem} {x0 : Nat} {x1 : Int32} {x2 : Int32} {x3 : Option Value} (hT : mWT m) (hOx0 : m.1 x0 = some (.inr 8) ∧ x0 ≠ 0)
    (h : mEs d 191 b g191 (2, [some (.ref x0), some (.int x1), some (.int x2), some (.int 0)], [], m) Q) :
    mEs d 191 b g191 (0, [some (.ref x0), some (.int x1), some (.int x2), x3], [], m) Q := by
  refine e_iconst (pc' := 1) (v := 0) (dAt D191 0 rfl) rfl (by decide) ?_
  refine e_istore_n (pc' := 2) (dAt D191 1 rfl) rfl (Nat.le_of_ble_eq_true rfl) rfl ?_
  exact h
-- PlaceNetsModel.goFrom.(II)V, from 2
set_option maxRecDepth 20000 in
theorem bk191_2 {d b : Nat} {Q : Option Value → mMem → Prop} {m : mMem} {x0 : Nat} {x1 : Int32} {x2 : Int32} {x3 : Int32} (hT : mWT m) (hOx0 : m.1 x0 = some (.inr 8) ∧ x0 ≠ 0)
    (h : (((10 ≤ x3) → (mEv d 192 [.ref x0] m (fun r m' => mEs d 191 b g191 (57, [some (.ref x0), some (.int x1), some (.int x2), some (.int x3)], r.toList ++ [], m') Q))) ∧ (¬ (10 ≤ x3) → ((mIn ((10 * x1) + x3) 3010 = true) ∧ (mEv d 163 [.ref x0, .int x2, .int x3] m (fun r m' => mEs d 191 b g191 (38, [some (.ref x0), some (.int x1), some (.int x2), some (.int x3)], r.toList ++ [.int (m.2.2.1 (64 * x0 + 15) ((10 * x1) + x3).toNatClampNeg), .int ((10 * (iF m x0 33)) + x3), .ref (64 * x0 + 15)], m') Q)))))) :
    mEs d 191 b g191 (2, [some (.ref x0), some (.int x1), some (.int x2), some (.int x3)], [], m) Q := by
  refine e_iload_n (pc' := 3) (dAt D191 2 rfl) rfl rfl ?_
  refine e_bipush (pc' := 5) (v := 10) (dAt D191 3 rfl) rfl (by decide) ?_
  refine e_icmp_ge (t := 53) (pc' := 8) (dAt D191 4 rfl) ⟨by decide, by decide⟩ rfl (fun c => ?_) (fun c => ?_)
  · replace h := h.1 c
    refine e_aload_n (pc' := 54) (dAt D191 34 rfl) rfl rfl ?_
    exact e_call2 h (dAt D191 35 rfl) (hi0 rfl) rfl G192 (by decide) rfl (Nat.le_of_ble_eq_true rfl) (kV hOx0 rfl rfl) rfl rfl
  · replace h := h.2 c
    refine e_aload_n (pc' := 9) (dAt D191 5 rfl) rfl rfl ?_
    refine e_getfield (pc' := 12) (dAt D191 6 rfl) rfl rfl hOx0 (hT.own hOx0 14 rfl) ?_
    refine e_bipush (pc' := 14) (v := 10) (dAt D191 7 rfl) rfl (by decide) ?_
    refine e_aload_n (pc' := 15) (dAt D191 8 rfl) rfl rfl ?_
    refine e_getfield (pc' := 18) (dAt D191 9 rfl) rfl rfl hOx0 (hT.int hOx0 33 (by decide)) ?_
    refine e_imul (pc' := 19) (dAt D191 10 rfl) rfl ?_
    refine e_iload_n (pc' := 20) (dAt D191 11 rfl) rfl rfl ?_
    refine e_iadd (pc' := 21) (dAt D191 12 rfl) rfl ?_
    refine e_aload_n (pc' := 22) (dAt D191 13 rfl) rfl rfl ?_
    refine e_getfield (pc' := 25) (dAt D191 14 rfl) rfl rfl hOx0 (hT.own hOx0 14 rfl) ?_
    refine e_bipush (pc' := 27) (v := 10) (dAt D191 15 rfl) rfl (by decide) ?_
    refine e_iload_n (pc' := 28) (dAt D191 16 rfl) rfl rfl ?_
    refine e_imul (pc' := 29) (dAt D191 17 rfl) rfl ?_
    refine e_iload_n (pc' := 30) (dAt D191 18 rfl) rfl rfl ?_
    refine e_iadd (pc' := 31) (dAt D191 19 rfl) rfl ?_
    obtain ⟨f1, h⟩ := h
    refine e_iaload (pc' := 32) (dAt D191 20 rfl) rfl (hT.arr hOx0 14 rfl (by decide)).1 (Or.inl (hT.arr hOx0 14 rfl (by decide)).2) f1 rfl ?_
    refine e_aload_n (pc' := 33) (dAt D191 21 rfl) rfl rfl ?_
    refine e_iload_n (pc' := 34) (dAt D191 22 rfl) rfl rfl ?_
    refine e_iload_n (pc' := 35) (dAt D191 23 rfl) rfl rfl ?_
    exact e_call2 h (dAt D191 24 rfl) (hi0 rfl) rfl G163 (by decide) rfl (Nat.le_of_ble_eq_true rfl) (kV hOx0 rfl rfl) rfl rfl
-- PlaceNetsModel.goFrom.(II)V, from 38
set_option maxRecDepth 20000 in
theorem bk191_38 {d b : Nat} {Q : Option Value → mMem → Prop} {m : mMem} {x0 : Nat} {x1 : Int32} {x2 : Int32} {x3 : Int32} {y0 : Nat} {ly0 : Nat} {y1 : Int32} {y2 : Int32} {y3 : Int32} (hT : mWT m) (hOx0 : m.1 x0 = some (.inr 8) ∧ x0 ≠ 0) (hAy0 : m.1 y0 = some (.inl (.int, ly0)) ∧ y0 ≠ 0)
    (h : mEv d 162 [.ref x0, .int x2, .int x3] m (fun r m' => mEs d 191 b g191 (45, [some (.ref x0), some (.int x1), some (.int x2), some (.int x3)], r.toList ++ [.int (y2 + y3), .int y1, .ref y0], m') Q)) :
    mEs d 191 b g191 (38, [some (.ref x0), some (.int x1), some (.int x2), some (.int x3)], [.int y3, .int y2, .int y1, .ref y0], m) Q := by
  refine e_iadd (pc' := 39) (dAt D191 25 rfl) rfl ?_
  refine e_aload_n (pc' := 40) (dAt D191 26 rfl) rfl rfl ?_
  refine e_iload_n (pc' := 41) (dAt D191 27 rfl) rfl rfl ?_
  refine e_iload_n (pc' := 42) (dAt D191 28 rfl) rfl rfl ?_
  exact e_call2 h (dAt D191 29 rfl) (hi0 rfl) rfl G162 (by decide) rfl (Nat.le_of_ble_eq_true rfl) (kV hOx0 rfl rfl) rfl rfl
-- PlaceNetsModel.goFrom.(II)V, from 45
set_option maxRecDepth 20000 in
theorem bk191_45 {d b : Nat} {Q : Option Value → mMem → Prop} {m : mMem} {x0 : Nat} {x1 : Int32} {x2 : Int32} {x3 : Int32} {y0 : Nat} {ly0 : Nat} {y1 : Int32} {y2 : Int32} {y3 : Int32} (hT : mWT m) (hOx0 : m.1 x0 = some (.inr 8) ∧ x0 ≠ 0) (hAy0 : m.1 y0 = some (.inl (.int, ly0)) ∧ y0 ≠ 0)
    (h : (mIn y1 ly0 = true) ∧ (∀ (m_1 : mMem), m_1 = (mSetI m y0 (upd (m.2.2.1 y0) y1.toNatClampNeg (y2 - y3))) → ∀ (v_3 : Int32), v_3 = (x3 + 1) → mEs d 191 b g191 (2, [some (.ref x0), some (.int x1), some (.int x2), some (.int v_3)], [], m_1) Q)) :
    mEs d 191 b g191 (45, [some (.ref x0), some (.int x1), some (.int x2), some (.int x3)], [.int y3, .int y2, .int y1, .ref y0], m) Q := by
  refine e_isub (pc' := 46) (dAt D191 30 rfl) rfl ?_
  obtain ⟨f1, h⟩ := h
  replace h := h _ rfl
  refine e_iastore (pc' := 47) (dAt D191 31 rfl) rfl hAy0.1 hAy0.2 f1 (nar_i _) ?_
  refine wtI hT (fun hT_2 => ?_)
  replace h := h _ rfl
  refine e_iinc (pc' := 50) (dAt D191 32 rfl) rfl rfl (Nat.le_of_ble_eq_true rfl) (congrArg (_ + ·) (show Int32.ofInt (1) = (1 : Int32) by decide)) rfl ?_
  refine e_goto (t := 2) (dAt D191 33 rfl) ⟨by decide, by decide⟩ ?_
  exact h
-- PlaceNetsModel.goFrom.(II)V, from 57
set_option maxRecDepth 20000 in
theorem bk191_57 {d b : Nat} {Q : Option Value → mMem → Prop} {m : mMem} {x0 : Nat} {x1 : Int32} {x2 : Int32} {x3 : Int32} {y0 : Int32} (hT : mWT m) (hOx0 : m.1 x0 = some (.inr 8) ∧ x0 ≠ 0)
    (h : (mIn ((10 * x1) + x2) 3010 = true) ∧ (∀ (m_1 : mMem), m_1 = (mSetI m (64 * x0 + 19) (upd (m.2.2.1 (64 * x0 + 19)) ((10 * x1) + x2).toNatClampNeg y0)) → (((¬ y0 = (iF m_1 x0 33)) → (Q none m_1)) ∧ (¬ (¬ y0 = (iF m_1 x0 33)) → ((mIn y0 301 = true) ∧ (∀ (m_3 : mMem), m_3 = (mSetI m_1 (64 * x0 + 16) (upd (m_1.2.2.1 (64 * x0 + 16)) y0.toNatClampNeg x1)) → (mIn y0 301 = true) ∧ (∀ (m_5 : mMem), m_5 = (mSetI m_3 (64 * x0 + 17) (upd (m_3.2.2.1 (64 * x0 + 17)) y0.toNatClampNeg x2)) → (mIn x1 301 = true) ∧ ((mIn y0 301 = true) ∧ (∀ (m_7 : mMem), m_7 = (mSetI m_5 (64 * x0 + 18) (upd (m_5.2.2.1 (64 * x0 + 18)) y0.toNatClampNeg ((m_5.2.2.1 (64 * x0 + 18) x1.toNatClampNeg) + 1))) → ∀ (m_9 : mMem), m_9 = (mSetF m_7 x0 33 (.int ((iF m_7 x0 33) + 1))) → Q none m_9))))))))) :
    mEs d 191 b g191 (57, [some (.ref x0), some (.int x1), some (.int x2), some (.int x3)], [.int y0], m) Q := by
  refine e_istore_n (pc' := 58) (dAt D191 36 rfl) rfl (Nat.le_of_ble_eq_true rfl) rfl ?_
  refine e_aload_n (pc' := 59) (dAt D191 37 rfl) rfl rfl ?_
  refine e_getfield (pc' := 62) (dAt D191 38 rfl) rfl rfl hOx0 (hT.own hOx0 18 rfl) ?_
  refine e_bipush (pc' := 64) (v := 10) (dAt D191 39 rfl) rfl (by decide) ?_
  refine e_iload_n (pc' := 65) (dAt D191 40 rfl) rfl rfl ?_
  refine e_imul (pc' := 66) (dAt D191 41 rfl) rfl ?_
  refine e_iload_n (pc' := 67) (dAt D191 42 rfl) rfl rfl ?_
  refine e_iadd (pc' := 68) (dAt D191 43 rfl) rfl ?_
  refine e_iload_n (pc' := 69) (dAt D191 44 rfl) rfl rfl ?_
  obtain ⟨f1, h⟩ := h
  replace h := h _ rfl
  refine e_iastore (pc' := 70) (dAt D191 45 rfl) rfl (hT.arr hOx0 18 rfl (by decide)).1 (hT.arr hOx0 18 rfl (by decide)).2 f1 (nar_i _) ?_
  refine wtI hT (fun hT_2 => ?_)
  refine e_iload_n (pc' := 71) (dAt D191 46 rfl) rfl rfl ?_
  refine e_aload_n (pc' := 72) (dAt D191 47 rfl) rfl rfl ?_
  refine e_getfield (pc' := 75) (dAt D191 48 rfl) rfl rfl hOx0 (hT_2.int hOx0 33 (by decide)) ?_
  refine e_icmp_ne (t := 116) (pc' := 78) (dAt D191 49 rfl) ⟨by decide, by decide⟩ rfl (fun c => ?_) (fun c => ?_)
  · replace h := h.1 c
    exact e_return (dAt D191 76 rfl) rfl h
  · replace h := h.2 c
    refine e_aload_n (pc' := 79) (dAt D191 50 rfl) rfl rfl ?_
    refine e_getfield (pc' := 82) (dAt D191 51 rfl) rfl rfl hOx0 (hT_2.own hOx0 15 rfl) ?_
    refine e_iload_n (pc' := 83) (dAt D191 52 rfl) rfl rfl ?_
    refine e_iload_n (pc' := 84) (dAt D191 53 rfl) rfl rfl ?_
    obtain ⟨f1, h⟩ := h
    replace h := h _ rfl
    refine e_iastore (pc' := 85) (dAt D191 54 rfl) rfl (hT_2.arr hOx0 15 rfl (by decide)).1 (hT_2.arr hOx0 15 rfl (by decide)).2 f1 (nar_i _) ?_
    refine wtI hT_2 (fun hT_4 => ?_)
    refine e_aload_n (pc' := 86) (dAt D191 55 rfl) rfl rfl ?_
    refine e_getfield (pc' := 89) (dAt D191 56 rfl) rfl rfl hOx0 (hT_4.own hOx0 16 rfl) ?_
    refine e_iload_n (pc' := 90) (dAt D191 57 rfl) rfl rfl ?_
    refine e_iload_n (pc' := 91) (dAt D191 58 rfl) rfl rfl ?_
    obtain ⟨f1, h⟩ := h
    replace h := h _ rfl
    refine e_iastore (pc' := 92) (dAt D191 59 rfl) rfl (hT_4.arr hOx0 16 rfl (by decide)).1 (hT_4.arr hOx0 16 rfl (by decide)).2 f1 (nar_i _) ?_
    refine wtI hT_4 (fun hT_6 => ?_)
    refine e_aload_n (pc' := 93) (dAt D191 60 rfl) rfl rfl ?_
    refine e_getfield (pc' := 96) (dAt D191 61 rfl) rfl rfl hOx0 (hT_6.own hOx0 17 rfl) ?_
    refine e_iload_n (pc' := 97) (dAt D191 62 rfl) rfl rfl ?_
    refine e_aload_n (pc' := 98) (dAt D191 63 rfl) rfl rfl ?_
    refine e_getfield (pc' := 101) (dAt D191 64 rfl) rfl rfl hOx0 (hT_6.own hOx0 17 rfl) ?_
    refine e_iload_n (pc' := 102) (dAt D191 65 rfl) rfl rfl ?_
    obtain ⟨f1, h⟩ := h
    refine e_iaload (pc' := 103) (dAt D191 66 rfl) rfl (hT_6.arr hOx0 17 rfl (by decide)).1 (Or.inl (hT_6.arr hOx0 17 rfl (by decide)).2) f1 rfl ?_
    refine e_iconst (pc' := 104) (v := 1) (dAt D191 67 rfl) rfl (by decide) ?_
    refine e_iadd (pc' := 105) (dAt D191 68 rfl) rfl ?_
    obtain ⟨f1, h⟩ := h
    replace h := h _ rfl
    refine e_iastore (pc' := 106) (dAt D191 69 rfl) rfl (hT_6.arr hOx0 17 rfl (by decide)).1 (hT_6.arr hOx0 17 rfl (by decide)).2 f1 (nar_i _) ?_
    refine wtI hT_6 (fun hT_8 => ?_)
    refine e_aload_n (pc' := 107) (dAt D191 70 rfl) rfl rfl ?_
    refine e_dup (pc' := 108) (dAt D191 71 rfl) rfl rfl ?_
    refine e_getfield (pc' := 111) (dAt D191 72 rfl) rfl rfl hOx0 (hT_8.int hOx0 33 (by decide)) ?_
    refine e_iconst (pc' := 112) (v := 1) (dAt D191 73 rfl) rfl (by decide) ?_
    refine e_iadd (pc' := 113) (dAt D191 74 rfl) rfl ?_
    replace h := h _ rfl
    refine e_putfield (pc' := 116) (dAt D191 75 rfl) rfl rfl hOx0 rfl rfl (fun e => by cases e) ?_
    refine wtF hT_8 hOx0 (by decide) (fun hT_10 => ?_)
    exact e_return (dAt D191 76 rfl) rfl h
-- PlaceNetsModel.known.()I, from 0
set_option maxRecDepth 20000 in
theorem bk192_0 {d b : Nat} {Q : Option Value → mMem → Prop} {m : mMem} {x0 : Nat} {x1 : Option Value} {x2 : Option Value} {x3 : Option Value} (hT : mWT m) (hOx0 : m.1 x0 = some (.inr 8) ∧ x0 ≠ 0)
    (h : mEs d 192 b g192 (2, [some (.ref x0), some (.int 0), x2, x3], [], m) Q) :
    mEs d 192 b g192 (0, [some (.ref x0), x1, x2, x3], [], m) Q := by
  refine e_iconst (pc' := 1) (v := 0) (dAt D192 0 rfl) rfl (by decide) ?_
  refine e_istore_n (pc' := 2) (dAt D192 1 rfl) rfl (Nat.le_of_ble_eq_true rfl) rfl ?_
  exact h
-- PlaceNetsModel.known.()I, from 2
set_option maxRecDepth 20000 in
theorem bk192_2 {d b : Nat} {Q : Option Value → mMem → Prop} {m : mMem} {x0 : Nat} {x1 : Int32} {x2 : Option Value} {x3 : Option Value} (hT : mWT m) (hOx0 : m.1 x0 = some (.inr 8) ∧ x0 ≠ 0)
    (h : ((((iF m x0 33) ≤ x1) → (Q (some (.int (iF m x0 33))) m)) ∧ (¬ ((iF m x0 33) ≤ x1) → (mEs d 192 b g192 (14, [some (.ref x0), some (.int x1), some (.int 1), some (.int 0)], [], m) Q)))) :
    mEs d 192 b g192 (2, [some (.ref x0), some (.int x1), x2, x3], [], m) Q := by
  refine e_iload_n (pc' := 3) (dAt D192 2 rfl) rfl rfl ?_
  refine e_aload_n (pc' := 4) (dAt D192 3 rfl) rfl rfl ?_
  refine e_getfield (pc' := 7) (dAt D192 4 rfl) rfl rfl hOx0 (hT.int hOx0 33 (by decide)) ?_
  refine e_icmp_ge (t := 78) (pc' := 10) (dAt D192 5 rfl) ⟨by decide, by decide⟩ rfl (fun c => ?_) (fun c => ?_)
  · replace h := h.1 c
    refine e_aload_n (pc' := 79) (dAt D192 46 rfl) rfl rfl ?_
    refine e_getfield (pc' := 82) (dAt D192 47 rfl) rfl rfl hOx0 (hT.int hOx0 33 (by decide)) ?_
    exact e_ireturn (dAt D192 48 rfl) rfl ⟨rfl, fun e => by cases e⟩ h
  · replace h := h.2 c
    refine e_iconst (pc' := 11) (v := 1) (dAt D192 6 rfl) rfl (by decide) ?_
    refine e_istore_n (pc' := 12) (dAt D192 7 rfl) rfl (Nat.le_of_ble_eq_true rfl) rfl ?_
    refine e_iconst (pc' := 13) (v := 0) (dAt D192 8 rfl) rfl (by decide) ?_
    refine e_istore_n (pc' := 14) (dAt D192 9 rfl) rfl (Nat.le_of_ble_eq_true rfl) rfl ?_
    exact h
-- PlaceNetsModel.known.()I, from 14
set_option maxRecDepth 20000 in
theorem bk192_14 {d b : Nat} {Q : Option Value → mMem → Prop} {m : mMem} {x0 : Nat} {x1 : Int32} {x2 : Int32} {x3 : Int32} (hT : mWT m) (hOx0 : m.1 x0 = some (.inr 8) ∧ x0 ≠ 0)
    (h : ((((iF m x0 6) ≤ x3) → (((x2 = 0) → (∀ (v_1 : Int32), v_1 = (x1 + 1) → mEs d 192 b g192 (2, [some (.ref x0), some (.int v_1), some (.int x2), some (.int x3)], [], m) Q)) ∧ (¬ (x2 = 0) → (Q (some (.int x1)) m)))) ∧ (¬ ((iF m x0 6) ≤ x3) → (((x2 = 0) → (∀ (v_2 : Int32), v_2 = (x3 + 1) → mEs d 192 b g192 (14, [some (.ref x0), some (.int x1), some (.int 0), some (.int v_2)], [], m) Q)) ∧ (¬ (x2 = 0) → ((mIn ((10 * x1) + x3) 3010 = true) ∧ ((mIn ((10 * (iF m x0 33)) + x3) 3010 = true) ∧ (((¬ (m.2.2.1 (64 * x0 + 15) ((10 * x1) + x3).toNatClampNeg) = (m.2.2.1 (64 * x0 + 15) ((10 * (iF m x0 33)) + x3).toNatClampNeg)) → (∀ (v_3 : Int32), v_3 = (x3 + 1) → mEs d 192 b g192 (14, [some (.ref x0), some (.int x1), some (.int 0), some (.int v_3)], [], m) Q)) ∧ (¬ (¬ (m.2.2.1 (64 * x0 + 15) ((10 * x1) + x3).toNatClampNeg) = (m.2.2.1 (64 * x0 + 15) ((10 * (iF m x0 33)) + x3).toNatClampNeg)) → (∀ (v_4 : Int32), v_4 = (x3 + 1) → mEs d 192 b g192 (14, [some (.ref x0), some (.int x1), some (.int 1), some (.int v_4)], [], m) Q)))))))))) :
    mEs d 192 b g192 (14, [some (.ref x0), some (.int x1), some (.int x2), some (.int x3)], [], m) Q := by
  refine e_iload_n (pc' := 15) (dAt D192 10 rfl) rfl rfl ?_
  refine e_aload_n (pc' := 16) (dAt D192 11 rfl) rfl rfl ?_
  refine e_getfield (pc' := 19) (dAt D192 12 rfl) rfl rfl hOx0 (hT.int hOx0 6 (by decide)) ?_
  refine e_icmp_ge (t := 66) (pc' := 22) (dAt D192 13 rfl) ⟨by decide, by decide⟩ rfl (fun c => ?_) (fun c => ?_)
  · replace h := h.1 c
    refine e_iload_n (pc' := 67) (dAt D192 40 rfl) rfl rfl ?_
    refine e_if_eq (t := 72) (pc' := 70) (dAt D192 41 rfl) ⟨by decide, by decide⟩ rfl (fun c => ?_) (fun c => ?_)
    · replace h := h.1 c
      replace h := h _ rfl
      refine e_iinc (pc' := 75) (dAt D192 44 rfl) rfl rfl (Nat.le_of_ble_eq_true rfl) (congrArg (_ + ·) (show Int32.ofInt (1) = (1 : Int32) by decide)) rfl ?_
      refine e_goto (t := 2) (dAt D192 45 rfl) ⟨by decide, by decide⟩ ?_
      exact h
    · replace h := h.2 c
      refine e_iload_n (pc' := 71) (dAt D192 42 rfl) rfl rfl ?_
      exact e_ireturn (dAt D192 43 rfl) rfl ⟨rfl, fun e => by cases e⟩ h
  · replace h := h.2 c
    refine e_iload_n (pc' := 23) (dAt D192 14 rfl) rfl rfl ?_
    refine e_if_eq (t := 58) (pc' := 26) (dAt D192 15 rfl) ⟨by decide, by decide⟩ rfl (fun c => ?_) (fun c => ?_)
    · replace h := h.1 c
      refine e_iconst (pc' := 59) (v := 0) (dAt D192 36 rfl) rfl (by decide) ?_
      refine e_istore_n (pc' := 60) (dAt D192 37 rfl) rfl (Nat.le_of_ble_eq_true rfl) rfl ?_
      replace h := h _ rfl
      refine e_iinc (pc' := 63) (dAt D192 38 rfl) rfl rfl (Nat.le_of_ble_eq_true rfl) (congrArg (_ + ·) (show Int32.ofInt (1) = (1 : Int32) by decide)) rfl ?_
      refine e_goto (t := 14) (dAt D192 39 rfl) ⟨by decide, by decide⟩ ?_
      exact h
    · replace h := h.2 c
      refine e_aload_n (pc' := 27) (dAt D192 16 rfl) rfl rfl ?_
      refine e_getfield (pc' := 30) (dAt D192 17 rfl) rfl rfl hOx0 (hT.own hOx0 14 rfl) ?_
      refine e_bipush (pc' := 32) (v := 10) (dAt D192 18 rfl) rfl (by decide) ?_
      refine e_iload_n (pc' := 33) (dAt D192 19 rfl) rfl rfl ?_
      refine e_imul (pc' := 34) (dAt D192 20 rfl) rfl ?_
      refine e_iload_n (pc' := 35) (dAt D192 21 rfl) rfl rfl ?_
      refine e_iadd (pc' := 36) (dAt D192 22 rfl) rfl ?_
      obtain ⟨f1, h⟩ := h
      refine e_iaload (pc' := 37) (dAt D192 23 rfl) rfl (hT.arr hOx0 14 rfl (by decide)).1 (Or.inl (hT.arr hOx0 14 rfl (by decide)).2) f1 rfl ?_
      refine e_aload_n (pc' := 38) (dAt D192 24 rfl) rfl rfl ?_
      refine e_getfield (pc' := 41) (dAt D192 25 rfl) rfl rfl hOx0 (hT.own hOx0 14 rfl) ?_
      refine e_bipush (pc' := 43) (v := 10) (dAt D192 26 rfl) rfl (by decide) ?_
      refine e_aload_n (pc' := 44) (dAt D192 27 rfl) rfl rfl ?_
      refine e_getfield (pc' := 47) (dAt D192 28 rfl) rfl rfl hOx0 (hT.int hOx0 33 (by decide)) ?_
      refine e_imul (pc' := 48) (dAt D192 29 rfl) rfl ?_
      refine e_iload_n (pc' := 49) (dAt D192 30 rfl) rfl rfl ?_
      refine e_iadd (pc' := 50) (dAt D192 31 rfl) rfl ?_
      obtain ⟨f1, h⟩ := h
      refine e_iaload (pc' := 51) (dAt D192 32 rfl) rfl (hT.arr hOx0 14 rfl (by decide)).1 (Or.inl (hT.arr hOx0 14 rfl (by decide)).2) f1 rfl ?_
      refine e_icmp_ne (t := 58) (pc' := 54) (dAt D192 33 rfl) ⟨by decide, by decide⟩ rfl (fun c => ?_) (fun c => ?_)
      · replace h := h.1 c
        refine e_iconst (pc' := 59) (v := 0) (dAt D192 36 rfl) rfl (by decide) ?_
        refine e_istore_n (pc' := 60) (dAt D192 37 rfl) rfl (Nat.le_of_ble_eq_true rfl) rfl ?_
        replace h := h _ rfl
        refine e_iinc (pc' := 63) (dAt D192 38 rfl) rfl rfl (Nat.le_of_ble_eq_true rfl) (congrArg (_ + ·) (show Int32.ofInt (1) = (1 : Int32) by decide)) rfl ?_
        refine e_goto (t := 14) (dAt D192 39 rfl) ⟨by decide, by decide⟩ ?_
        exact h
      · replace h := h.2 c
        refine e_iconst (pc' := 55) (v := 1) (dAt D192 34 rfl) rfl (by decide) ?_
        refine e_goto (t := 59) (dAt D192 35 rfl) ⟨by decide, by decide⟩ ?_
        refine e_istore_n (pc' := 60) (dAt D192 37 rfl) rfl (Nat.le_of_ble_eq_true rfl) rfl ?_
        replace h := h _ rfl
        refine e_iinc (pc' := 63) (dAt D192 38 rfl) rfl rfl (Nat.le_of_ble_eq_true rfl) (congrArg (_ + ·) (show Int32.ofInt (1) = (1 : Int32) by decide)) rfl ?_
        refine e_goto (t := 14) (dAt D192 39 rfl) ⟨by decide, by decide⟩ ?_
        exact h
-- PlaceNetsModel.dead.(I)I, from 0
set_option maxRecDepth 20000 in
theorem bk193_0 {d b : Nat} {Q : Option Value → mMem → Prop} {m : mMem} {x0 : Nat} {x1 : Int32} {x2 : Option Value} {x3 : Option Value} {x4 : Option Value} {x5 : Option Value} (hT : mWT m) (hOx0 : m.1 x0 = some (.inr 8) ∧ x0 ≠ 0)
    (h : ∀ (m_1 : mMem), m_1 = (mSetF m x0 0 (.int 0)) → ((((iF m_1 x0 18) = 0) → (Q (some (.int ((-1)))) m_1)) ∧ (¬ ((iF m_1 x0 18) = 0) → (mEv d 151 [.long x1.toInt64, .long 0, .long 3] m_1 (fun r m' => mEs d 193 b g193 (21, [some (.ref x0), some (.int x1), x2, x3, x4, x5], r.toList ++ [], m') Q))))) :
    mEs d 193 b g193 (0, [some (.ref x0), some (.int x1), x2, x3, x4, x5], [], m) Q := by
  refine e_aload_n (pc' := 1) (dAt D193 0 rfl) rfl rfl ?_
  refine e_iconst (pc' := 2) (v := 0) (dAt D193 1 rfl) rfl (by decide) ?_
  replace h := h _ rfl
  refine e_putfield (pc' := 5) (dAt D193 2 rfl) rfl rfl hOx0 rfl rfl (fun e => by cases e) ?_
  refine wtF hT hOx0 (by decide) (fun hT_2 => ?_)
  refine e_aload_n (pc' := 6) (dAt D193 3 rfl) rfl rfl ?_
  refine e_getfield (pc' := 9) (dAt D193 4 rfl) rfl rfl hOx0 (hT_2.int hOx0 18 (by decide)) ?_
  refine e_if_eq (t := 24) (pc' := 12) (dAt D193 5 rfl) ⟨by decide, by decide⟩ rfl (fun c => ?_) (fun c => ?_)
  · replace h := h.1 c
    refine e_iconst (pc' := 25) (v := (-1)) (dAt D193 12 rfl) rfl (by decide) ?_
    exact e_ireturn (dAt D193 13 rfl) rfl ⟨rfl, fun e => by cases e⟩ h
  · replace h := h.2 c
    refine e_iload_n (pc' := 13) (dAt D193 6 rfl) rfl rfl ?_
    refine e_i2l (pc' := 14) (dAt D193 7 rfl) rfl ?_
    refine e_lconst (pc' := 15) (v := 0) (dAt D193 8 rfl) rfl (by decide) ?_
    refine e_ldc2_w (pc' := 18) (dAt D193 9 rfl) rfl rfl ?_
    exact e_call2 h (dAt D193 10 rfl) (hi2 rfl) rfl G151 (by decide) rfl (Nat.le_of_ble_eq_true rfl) rfl rfl rfl
-- PlaceNetsModel.dead.(I)I, from 21
set_option maxRecDepth 20000 in
theorem bk193_21 {d b : Nat} {Q : Option Value → mMem → Prop} {m : mMem} {x0 : Nat} {x1 : Int32} {x2 : Option Value} {x3 : Option Value} {x4 : Option Value} {x5 : Option Value} {y0 : Int32} (hT : mWT m) (hOx0 : m.1 x0 = some (.inr 8) ∧ x0 ≠ 0)
    (h : (((¬ y0 = 0) → (mEv d 190 [.ref x0] m (fun r m' => mEs d 193 b g193 (30, [some (.ref x0), some (.int x1), x2, x3, x4, x5], r.toList ++ [], m') Q))) ∧ (¬ (¬ y0 = 0) → (Q (some (.int ((-1)))) m)))) :
    mEs d 193 b g193 (21, [some (.ref x0), some (.int x1), x2, x3, x4, x5], [.int y0], m) Q := by
  refine e_if_ne (t := 26) (pc' := 24) (dAt D193 11 rfl) ⟨by decide, by decide⟩ rfl (fun c => ?_) (fun c => ?_)
  · replace h := h.1 c
    refine e_aload_n (pc' := 27) (dAt D193 14 rfl) rfl rfl ?_
    exact e_call2 h (dAt D193 15 rfl) (hi0 rfl) rfl G190 (by decide) rfl (Nat.le_of_ble_eq_true rfl) (kV hOx0 rfl rfl) rfl rfl
  · replace h := h.2 c
    refine e_iconst (pc' := 25) (v := (-1)) (dAt D193 12 rfl) rfl (by decide) ?_
    exact e_ireturn (dAt D193 13 rfl) rfl ⟨rfl, fun e => by cases e⟩ h
-- PlaceNetsModel.dead.(I)I, from 30
set_option maxRecDepth 20000 in
theorem bk193_30 {d b : Nat} {Q : Option Value → mMem → Prop} {m : mMem} {x0 : Nat} {x1 : Int32} {x2 : Option Value} {x3 : Option Value} {x4 : Option Value} {x5 : Option Value} (hT : mWT m) (hOx0 : m.1 x0 = some (.inr 8) ∧ x0 ≠ 0)
    (h : ((((iF m x0 33) ≤ 300) → (∀ (v_1 : Int32), v_1 = ((-3)) → ∀ (v_2 : Int32), v_2 = ((iF m x0 33) - 1) → mEs d 193 b g193 (56, [some (.ref x0), some (.int x1), some (.int 0), some (.int v_1), some (.int v_2), x5], [], m) Q)) ∧ (¬ ((iF m x0 33) ≤ 300) → (Q (some (.int ((-2)))) m)))) :
    mEs d 193 b g193 (30, [some (.ref x0), some (.int x1), x2, x3, x4, x5], [], m) Q := by
  refine e_aload_n (pc' := 31) (dAt D193 16 rfl) rfl rfl ?_
  refine e_getfield (pc' := 34) (dAt D193 17 rfl) rfl rfl hOx0 (hT.int hOx0 33 (by decide)) ?_
  refine e_sipush (pc' := 37) (v := 300) (dAt D193 18 rfl) rfl (by decide) ?_
  refine e_icmp_le (t := 43) (pc' := 40) (dAt D193 19 rfl) ⟨by decide, by decide⟩ rfl (fun c => ?_) (fun c => ?_)
  · replace h := h.1 c
    refine e_iconst (pc' := 44) (v := 0) (dAt D193 22 rfl) rfl (by decide) ?_
    refine e_istore_n (pc' := 45) (dAt D193 23 rfl) rfl (Nat.le_of_ble_eq_true rfl) rfl ?_
    refine e_bipush (pc' := 47) (v := (-3)) (dAt D193 24 rfl) rfl (by decide) ?_
    replace h := h _ rfl
    refine e_istore_n (pc' := 48) (dAt D193 25 rfl) rfl (Nat.le_of_ble_eq_true rfl) rfl ?_
    refine e_aload_n (pc' := 49) (dAt D193 26 rfl) rfl rfl ?_
    refine e_getfield (pc' := 52) (dAt D193 27 rfl) rfl rfl hOx0 (hT.int hOx0 33 (by decide)) ?_
    refine e_iconst (pc' := 53) (v := 1) (dAt D193 28 rfl) rfl (by decide) ?_
    refine e_isub (pc' := 54) (dAt D193 29 rfl) rfl ?_
    replace h := h _ rfl
    refine e_istore (pc' := 56) (dAt D193 30 rfl) rfl (Nat.le_of_ble_eq_true rfl) rfl ?_
    exact h
  · replace h := h.2 c
    refine e_bipush (pc' := 42) (v := (-2)) (dAt D193 20 rfl) rfl (by decide) ?_
    exact e_ireturn (dAt D193 21 rfl) rfl ⟨rfl, fun e => by cases e⟩ h
-- PlaceNetsModel.dead.(I)I, from 56
set_option maxRecDepth 20000 in
theorem bk193_56 {d b : Nat} {Q : Option Value → mMem → Prop} {m : mMem} {x0 : Nat} {x1 : Int32} {x2 : Int32} {x3 : Int32} {x4 : Int32} {x5 : Option Value} (hT : mWT m) (hOx0 : m.1 x0 = some (.inr 8) ∧ x0 ≠ 0)
    (h : (((x4 < 0) → (((¬ x1 = 0) → (((¬ x1 = 1) → (mEv d 195 [.ref x0] m (fun r m' => mEs d 193 b g193 (148, [some (.ref x0), some (.int x1), some (.int x2), some (.int x3), some (.int x4), x5], r.toList ++ [], m') Q))) ∧ (¬ (¬ x1 = 1) → (mEs d 193 b g193 (148, [some (.ref x0), some (.int x1), some (.int x2), some (.int x3), some (.int x4), x5], [.int x3], m) Q)))) ∧ (¬ (¬ x1 = 0) → (mEs d 193 b g193 (148, [some (.ref x0), some (.int x1), some (.int x2), some (.int x3), some (.int x4), x5], [.int x2], m) Q)))) ∧ (¬ (x4 < 0) → (mEv d 194 [.ref x0, .int x4] m (fun r m' => mEs d 193 b g193 (67, [some (.ref x0), some (.int x1), some (.int x2), some (.int x3), some (.int x4), x5], r.toList ++ [], m') Q))))) :
    mEs d 193 b g193 (56, [some (.ref x0), some (.int x1), some (.int x2), some (.int x3), some (.int x4), x5], [], m) Q := by
  refine e_iload (pc' := 58) (dAt D193 31 rfl) rfl rfl ?_
  refine e_if_lt (t := 127) (pc' := 61) (dAt D193 32 rfl) ⟨by decide, by decide⟩ rfl (fun c => ?_) (fun c => ?_)
  · replace h := h.1 c
    refine e_iload_n (pc' := 128) (dAt D193 67 rfl) rfl rfl ?_
    refine e_if_ne (t := 135) (pc' := 131) (dAt D193 68 rfl) ⟨by decide, by decide⟩ rfl (fun c => ?_) (fun c => ?_)
    · replace h := h.1 c
      refine e_iload_n (pc' := 136) (dAt D193 71 rfl) rfl rfl ?_
      refine e_iconst (pc' := 137) (v := 1) (dAt D193 72 rfl) rfl (by decide) ?_
      refine e_icmp_ne (t := 144) (pc' := 140) (dAt D193 73 rfl) ⟨by decide, by decide⟩ rfl (fun c => ?_) (fun c => ?_)
      · replace h := h.1 c
        refine e_aload_n (pc' := 145) (dAt D193 76 rfl) rfl rfl ?_
        exact e_call2 h (dAt D193 77 rfl) (hi0 rfl) rfl G195 (by decide) rfl (Nat.le_of_ble_eq_true rfl) (kV hOx0 rfl rfl) rfl rfl
      · replace h := h.2 c
        refine e_iload_n (pc' := 141) (dAt D193 74 rfl) rfl rfl ?_
        refine e_goto (t := 148) (dAt D193 75 rfl) ⟨by decide, by decide⟩ ?_
        exact h
    · replace h := h.2 c
      refine e_iload_n (pc' := 132) (dAt D193 69 rfl) rfl rfl ?_
      refine e_goto (t := 148) (dAt D193 70 rfl) ⟨by decide, by decide⟩ ?_
      exact h
  · replace h := h.2 c
    refine e_aload_n (pc' := 62) (dAt D193 33 rfl) rfl rfl ?_
    refine e_iload (pc' := 64) (dAt D193 34 rfl) rfl rfl ?_
    exact e_call2 h (dAt D193 35 rfl) (hi0 rfl) rfl G194 (by decide) rfl (Nat.le_of_ble_eq_true rfl) (kV hOx0 rfl rfl) rfl rfl
-- PlaceNetsModel.dead.(I)I, from 67
set_option maxRecDepth 20000 in
theorem bk193_67 {d b : Nat} {Q : Option Value → mMem → Prop} {m : mMem} {x0 : Nat} {x1 : Int32} {x2 : Int32} {x3 : Int32} {x4 : Int32} {x5 : Option Value} {y0 : Int32} (hT : mWT m) (hOx0 : m.1 x0 = some (.inr 8) ∧ x0 ≠ 0)
    (h : (((y0 = 0) → (∀ (v_1 : Int32), v_1 = (x2 + 0) → (((y0 = 0) → (((¬ x1 = 2) → ((mIn x4 301 = true) ∧ ((y0 = 0 ∨ y0 = 1) ∧ (∀ (m_2 : mMem), m_2 = (mSetI m (64 * x0 + 20) (upd (m.2.2.1 (64 * x0 + 20)) x4.toNatClampNeg y0)) → ∀ (v_4 : Int32), v_4 = (x4 + (-1)) → mEs d 193 b g193 (56, [some (.ref x0), some (.int x1), some (.int v_1), some (.int x3), some (.int v_4), some (.int y0)], [], m_2) Q)))) ∧ (¬ (¬ x1 = 2) → (((¬ x4 = 0) → ((mIn x4 301 = true) ∧ (∀ (m_5 : mMem), m_5 = (mSetI m (64 * x0 + 20) (upd (m.2.2.1 (64 * x0 + 20)) x4.toNatClampNeg 0)) → ∀ (v_7 : Int32), v_7 = (x4 + (-1)) → mEs d 193 b g193 (56, [some (.ref x0), some (.int x1), some (.int v_1), some (.int x3), some (.int v_7), some (.int y0)], [], m_5) Q))) ∧ (¬ (¬ x4 = 0) → ((mIn x4 301 = true) ∧ (∀ (m_8 : mMem), m_8 = (mSetI m (64 * x0 + 20) (upd (m.2.2.1 (64 * x0 + 20)) x4.toNatClampNeg 1)) → ∀ (v_10 : Int32), v_10 = (x4 + (-1)) → mEs d 193 b g193 (56, [some (.ref x0), some (.int x1), some (.int v_1), some (.int x3), some (.int v_10), some (.int y0)], [], m_8) Q))))))) ∧ (¬ (y0 = 0) → (((¬ x1 = 2) → ((mIn x4 301 = true) ∧ ((y0 = 0 ∨ y0 = 1) ∧ (∀ (m_11 : mMem), m_11 = (mSetI m (64 * x0 + 20) (upd (m.2.2.1 (64 * x0 + 20)) x4.toNatClampNeg y0)) → ∀ (v_13 : Int32), v_13 = (x4 + (-1)) → mEs d 193 b g193 (56, [some (.ref x0), some (.int x1), some (.int v_1), some (.int x4), some (.int v_13), some (.int y0)], [], m_11) Q)))) ∧ (¬ (¬ x1 = 2) → (((¬ x4 = 0) → ((mIn x4 301 = true) ∧ (∀ (m_14 : mMem), m_14 = (mSetI m (64 * x0 + 20) (upd (m.2.2.1 (64 * x0 + 20)) x4.toNatClampNeg 0)) → ∀ (v_16 : Int32), v_16 = (x4 + (-1)) → mEs d 193 b g193 (56, [some (.ref x0), some (.int x1), some (.int v_1), some (.int x4), some (.int v_16), some (.int y0)], [], m_14) Q))) ∧ (¬ (¬ x4 = 0) → ((mIn x4 301 = true) ∧ (∀ (m_17 : mMem), m_17 = (mSetI m (64 * x0 + 20) (upd (m.2.2.1 (64 * x0 + 20)) x4.toNatClampNeg 1)) → ∀ (v_19 : Int32), v_19 = (x4 + (-1)) → mEs d 193 b g193 (56, [some (.ref x0), some (.int x1), some (.int v_1), some (.int x4), some (.int v_19), some (.int y0)], [], m_17) Q)))))))))) ∧ (¬ (y0 = 0) → (∀ (v_20 : Int32), v_20 = (x2 + 1) → (((y0 = 0) → (((¬ x1 = 2) → ((mIn x4 301 = true) ∧ ((y0 = 0 ∨ y0 = 1) ∧ (∀ (m_21 : mMem), m_21 = (mSetI m (64 * x0 + 20) (upd (m.2.2.1 (64 * x0 + 20)) x4.toNatClampNeg y0)) → ∀ (v_23 : Int32), v_23 = (x4 + (-1)) → mEs d 193 b g193 (56, [some (.ref x0), some (.int x1), some (.int v_20), some (.int x3), some (.int v_23), some (.int y0)], [], m_21) Q)))) ∧ (¬ (¬ x1 = 2) → (((¬ x4 = 0) → ((mIn x4 301 = true) ∧ (∀ (m_24 : mMem), m_24 = (mSetI m (64 * x0 + 20) (upd (m.2.2.1 (64 * x0 + 20)) x4.toNatClampNeg 0)) → ∀ (v_26 : Int32), v_26 = (x4 + (-1)) → mEs d 193 b g193 (56, [some (.ref x0), some (.int x1), some (.int v_20), some (.int x3), some (.int v_26), some (.int y0)], [], m_24) Q))) ∧ (¬ (¬ x4 = 0) → ((mIn x4 301 = true) ∧ (∀ (m_27 : mMem), m_27 = (mSetI m (64 * x0 + 20) (upd (m.2.2.1 (64 * x0 + 20)) x4.toNatClampNeg 1)) → ∀ (v_29 : Int32), v_29 = (x4 + (-1)) → mEs d 193 b g193 (56, [some (.ref x0), some (.int x1), some (.int v_20), some (.int x3), some (.int v_29), some (.int y0)], [], m_27) Q))))))) ∧ (¬ (y0 = 0) → (((¬ x1 = 2) → ((mIn x4 301 = true) ∧ ((y0 = 0 ∨ y0 = 1) ∧ (∀ (m_30 : mMem), m_30 = (mSetI m (64 * x0 + 20) (upd (m.2.2.1 (64 * x0 + 20)) x4.toNatClampNeg y0)) → ∀ (v_32 : Int32), v_32 = (x4 + (-1)) → mEs d 193 b g193 (56, [some (.ref x0), some (.int x1), some (.int v_20), some (.int x4), some (.int v_32), some (.int y0)], [], m_30) Q)))) ∧ (¬ (¬ x1 = 2) → (((¬ x4 = 0) → ((mIn x4 301 = true) ∧ (∀ (m_33 : mMem), m_33 = (mSetI m (64 * x0 + 20) (upd (m.2.2.1 (64 * x0 + 20)) x4.toNatClampNeg 0)) → ∀ (v_35 : Int32), v_35 = (x4 + (-1)) → mEs d 193 b g193 (56, [some (.ref x0), some (.int x1), some (.int v_20), some (.int x4), some (.int v_35), some (.int y0)], [], m_33) Q))) ∧ (¬ (¬ x4 = 0) → ((mIn x4 301 = true) ∧ (∀ (m_36 : mMem), m_36 = (mSetI m (64 * x0 + 20) (upd (m.2.2.1 (64 * x0 + 20)) x4.toNatClampNeg 1)) → ∀ (v_38 : Int32), v_38 = (x4 + (-1)) → mEs d 193 b g193 (56, [some (.ref x0), some (.int x1), some (.int v_20), some (.int x4), some (.int v_38), some (.int y0)], [], m_36) Q)))))))))))) :
    mEs d 193 b g193 (67, [some (.ref x0), some (.int x1), some (.int x2), some (.int x3), some (.int x4), x5], [.int y0], m) Q := by
  refine e_istore (pc' := 69) (dAt D193 36 rfl) rfl (Nat.le_of_ble_eq_true rfl) rfl ?_
  refine e_iload_n (pc' := 70) (dAt D193 37 rfl) rfl rfl ?_
  refine e_iload (pc' := 72) (dAt D193 38 rfl) rfl rfl ?_
  refine e_if_eq (t := 79) (pc' := 75) (dAt D193 39 rfl) ⟨by decide, by decide⟩ rfl (fun c => ?_) (fun c => ?_)
  · replace h := h.1 c
    refine e_iconst (pc' := 80) (v := 0) (dAt D193 42 rfl) rfl (by decide) ?_
    refine e_iadd (pc' := 81) (dAt D193 43 rfl) rfl ?_
    replace h := h _ rfl
    refine e_istore_n (pc' := 82) (dAt D193 44 rfl) rfl (Nat.le_of_ble_eq_true rfl) rfl ?_
    refine e_iload (pc' := 84) (dAt D193 45 rfl) rfl rfl ?_
    refine e_if_eq (t := 92) (pc' := 87) (dAt D193 46 rfl) ⟨by decide, by decide⟩ rfl (fun c => ?_) (fun c => ?_)
    · replace h := h.1 c
      refine e_iload_n (pc' := 93) (dAt D193 49 rfl) rfl rfl ?_
      refine e_istore_n (pc' := 94) (dAt D193 50 rfl) rfl (Nat.le_of_ble_eq_true rfl) rfl ?_
      refine e_aload_n (pc' := 95) (dAt D193 51 rfl) rfl rfl ?_
      refine e_getfield (pc' := 98) (dAt D193 52 rfl) rfl rfl hOx0 (hT.own hOx0 19 rfl) ?_
      refine e_iload (pc' := 100) (dAt D193 53 rfl) rfl rfl ?_
      refine e_iload_n (pc' := 101) (dAt D193 54 rfl) rfl rfl ?_
      refine e_iconst (pc' := 102) (v := 2) (dAt D193 55 rfl) rfl (by decide) ?_
      refine e_icmp_ne (t := 118) (pc' := 105) (dAt D193 56 rfl) ⟨by decide, by decide⟩ rfl (fun c => ?_) (fun c => ?_)
      · replace h := h.1 c
        refine e_iload (pc' := 120) (dAt D193 63 rfl) rfl rfl ?_
        obtain ⟨f1, h⟩ := h
        obtain ⟨f9, h⟩ := h
        replace h := h _ rfl
        refine e_zastore (pc' := 121) (dAt D193 64 rfl) rfl (hT.arr hOx0 19 rfl (by decide)).1 (hT.arr hOx0 19 rfl (by decide)).2 f1 (vz01 f9) ?_
        refine wtI hT (fun hT_3 => ?_)
        replace h := h _ rfl
        refine e_iinc (pc' := 124) (dAt D193 65 rfl) rfl rfl (Nat.le_of_ble_eq_true rfl) (congrArg (_ + ·) (show Int32.ofInt (-1) = (-1 : Int32) by decide)) rfl ?_
        refine e_goto (t := 56) (dAt D193 66 rfl) ⟨by decide, by decide⟩ ?_
        exact h
      · replace h := h.2 c
        refine e_iload (pc' := 107) (dAt D193 57 rfl) rfl rfl ?_
        refine e_if_ne (t := 114) (pc' := 110) (dAt D193 58 rfl) ⟨by decide, by decide⟩ rfl (fun c => ?_) (fun c => ?_)
        · replace h := h.1 c
          refine e_iconst (pc' := 115) (v := 0) (dAt D193 61 rfl) rfl (by decide) ?_
          refine e_goto (t := 120) (dAt D193 62 rfl) ⟨by decide, by decide⟩ ?_
          obtain ⟨f1, h⟩ := h
          replace h := h _ rfl
          refine e_zastore (pc' := 121) (dAt D193 64 rfl) rfl (hT.arr hOx0 19 rfl (by decide)).1 (hT.arr hOx0 19 rfl (by decide)).2 f1 (vz01 (Or.inl rfl)) ?_
          refine wtI hT (fun hT_6 => ?_)
          replace h := h _ rfl
          refine e_iinc (pc' := 124) (dAt D193 65 rfl) rfl rfl (Nat.le_of_ble_eq_true rfl) (congrArg (_ + ·) (show Int32.ofInt (-1) = (-1 : Int32) by decide)) rfl ?_
          refine e_goto (t := 56) (dAt D193 66 rfl) ⟨by decide, by decide⟩ ?_
          exact h
        · replace h := h.2 c
          refine e_iconst (pc' := 111) (v := 1) (dAt D193 59 rfl) rfl (by decide) ?_
          refine e_goto (t := 120) (dAt D193 60 rfl) ⟨by decide, by decide⟩ ?_
          obtain ⟨f1, h⟩ := h
          replace h := h _ rfl
          refine e_zastore (pc' := 121) (dAt D193 64 rfl) rfl (hT.arr hOx0 19 rfl (by decide)).1 (hT.arr hOx0 19 rfl (by decide)).2 f1 (vz01 (Or.inr rfl)) ?_
          refine wtI hT (fun hT_9 => ?_)
          replace h := h _ rfl
          refine e_iinc (pc' := 124) (dAt D193 65 rfl) rfl rfl (Nat.le_of_ble_eq_true rfl) (congrArg (_ + ·) (show Int32.ofInt (-1) = (-1 : Int32) by decide)) rfl ?_
          refine e_goto (t := 56) (dAt D193 66 rfl) ⟨by decide, by decide⟩ ?_
          exact h
    · replace h := h.2 c
      refine e_iload (pc' := 89) (dAt D193 47 rfl) rfl rfl ?_
      refine e_goto (t := 93) (dAt D193 48 rfl) ⟨by decide, by decide⟩ ?_
      refine e_istore_n (pc' := 94) (dAt D193 50 rfl) rfl (Nat.le_of_ble_eq_true rfl) rfl ?_
      refine e_aload_n (pc' := 95) (dAt D193 51 rfl) rfl rfl ?_
      refine e_getfield (pc' := 98) (dAt D193 52 rfl) rfl rfl hOx0 (hT.own hOx0 19 rfl) ?_
      refine e_iload (pc' := 100) (dAt D193 53 rfl) rfl rfl ?_
      refine e_iload_n (pc' := 101) (dAt D193 54 rfl) rfl rfl ?_
      refine e_iconst (pc' := 102) (v := 2) (dAt D193 55 rfl) rfl (by decide) ?_
      refine e_icmp_ne (t := 118) (pc' := 105) (dAt D193 56 rfl) ⟨by decide, by decide⟩ rfl (fun c => ?_) (fun c => ?_)
      · replace h := h.1 c
        refine e_iload (pc' := 120) (dAt D193 63 rfl) rfl rfl ?_
        obtain ⟨f1, h⟩ := h
        obtain ⟨f9, h⟩ := h
        replace h := h _ rfl
        refine e_zastore (pc' := 121) (dAt D193 64 rfl) rfl (hT.arr hOx0 19 rfl (by decide)).1 (hT.arr hOx0 19 rfl (by decide)).2 f1 (vz01 f9) ?_
        refine wtI hT (fun hT_12 => ?_)
        replace h := h _ rfl
        refine e_iinc (pc' := 124) (dAt D193 65 rfl) rfl rfl (Nat.le_of_ble_eq_true rfl) (congrArg (_ + ·) (show Int32.ofInt (-1) = (-1 : Int32) by decide)) rfl ?_
        refine e_goto (t := 56) (dAt D193 66 rfl) ⟨by decide, by decide⟩ ?_
        exact h
      · replace h := h.2 c
        refine e_iload (pc' := 107) (dAt D193 57 rfl) rfl rfl ?_
        refine e_if_ne (t := 114) (pc' := 110) (dAt D193 58 rfl) ⟨by decide, by decide⟩ rfl (fun c => ?_) (fun c => ?_)
        · replace h := h.1 c
          refine e_iconst (pc' := 115) (v := 0) (dAt D193 61 rfl) rfl (by decide) ?_
          refine e_goto (t := 120) (dAt D193 62 rfl) ⟨by decide, by decide⟩ ?_
          obtain ⟨f1, h⟩ := h
          replace h := h _ rfl
          refine e_zastore (pc' := 121) (dAt D193 64 rfl) rfl (hT.arr hOx0 19 rfl (by decide)).1 (hT.arr hOx0 19 rfl (by decide)).2 f1 (vz01 (Or.inl rfl)) ?_
          refine wtI hT (fun hT_15 => ?_)
          replace h := h _ rfl
          refine e_iinc (pc' := 124) (dAt D193 65 rfl) rfl rfl (Nat.le_of_ble_eq_true rfl) (congrArg (_ + ·) (show Int32.ofInt (-1) = (-1 : Int32) by decide)) rfl ?_
          refine e_goto (t := 56) (dAt D193 66 rfl) ⟨by decide, by decide⟩ ?_
          exact h
        · replace h := h.2 c
          refine e_iconst (pc' := 111) (v := 1) (dAt D193 59 rfl) rfl (by decide) ?_
          refine e_goto (t := 120) (dAt D193 60 rfl) ⟨by decide, by decide⟩ ?_
          obtain ⟨f1, h⟩ := h
          replace h := h _ rfl
          refine e_zastore (pc' := 121) (dAt D193 64 rfl) rfl (hT.arr hOx0 19 rfl (by decide)).1 (hT.arr hOx0 19 rfl (by decide)).2 f1 (vz01 (Or.inr rfl)) ?_
          refine wtI hT (fun hT_18 => ?_)
          replace h := h _ rfl
          refine e_iinc (pc' := 124) (dAt D193 65 rfl) rfl rfl (Nat.le_of_ble_eq_true rfl) (congrArg (_ + ·) (show Int32.ofInt (-1) = (-1 : Int32) by decide)) rfl ?_
          refine e_goto (t := 56) (dAt D193 66 rfl) ⟨by decide, by decide⟩ ?_
          exact h
  · replace h := h.2 c
    refine e_iconst (pc' := 76) (v := 1) (dAt D193 40 rfl) rfl (by decide) ?_
    refine e_goto (t := 80) (dAt D193 41 rfl) ⟨by decide, by decide⟩ ?_
    refine e_iadd (pc' := 81) (dAt D193 43 rfl) rfl ?_
    replace h := h _ rfl
    refine e_istore_n (pc' := 82) (dAt D193 44 rfl) rfl (Nat.le_of_ble_eq_true rfl) rfl ?_
    refine e_iload (pc' := 84) (dAt D193 45 rfl) rfl rfl ?_
    refine e_if_eq (t := 92) (pc' := 87) (dAt D193 46 rfl) ⟨by decide, by decide⟩ rfl (fun c => ?_) (fun c => ?_)
    · replace h := h.1 c
      refine e_iload_n (pc' := 93) (dAt D193 49 rfl) rfl rfl ?_
      refine e_istore_n (pc' := 94) (dAt D193 50 rfl) rfl (Nat.le_of_ble_eq_true rfl) rfl ?_
      refine e_aload_n (pc' := 95) (dAt D193 51 rfl) rfl rfl ?_
      refine e_getfield (pc' := 98) (dAt D193 52 rfl) rfl rfl hOx0 (hT.own hOx0 19 rfl) ?_
      refine e_iload (pc' := 100) (dAt D193 53 rfl) rfl rfl ?_
      refine e_iload_n (pc' := 101) (dAt D193 54 rfl) rfl rfl ?_
      refine e_iconst (pc' := 102) (v := 2) (dAt D193 55 rfl) rfl (by decide) ?_
      refine e_icmp_ne (t := 118) (pc' := 105) (dAt D193 56 rfl) ⟨by decide, by decide⟩ rfl (fun c => ?_) (fun c => ?_)
      · replace h := h.1 c
        refine e_iload (pc' := 120) (dAt D193 63 rfl) rfl rfl ?_
        obtain ⟨f1, h⟩ := h
        obtain ⟨f9, h⟩ := h
        replace h := h _ rfl
        refine e_zastore (pc' := 121) (dAt D193 64 rfl) rfl (hT.arr hOx0 19 rfl (by decide)).1 (hT.arr hOx0 19 rfl (by decide)).2 f1 (vz01 f9) ?_
        refine wtI hT (fun hT_22 => ?_)
        replace h := h _ rfl
        refine e_iinc (pc' := 124) (dAt D193 65 rfl) rfl rfl (Nat.le_of_ble_eq_true rfl) (congrArg (_ + ·) (show Int32.ofInt (-1) = (-1 : Int32) by decide)) rfl ?_
        refine e_goto (t := 56) (dAt D193 66 rfl) ⟨by decide, by decide⟩ ?_
        exact h
      · replace h := h.2 c
        refine e_iload (pc' := 107) (dAt D193 57 rfl) rfl rfl ?_
        refine e_if_ne (t := 114) (pc' := 110) (dAt D193 58 rfl) ⟨by decide, by decide⟩ rfl (fun c => ?_) (fun c => ?_)
        · replace h := h.1 c
          refine e_iconst (pc' := 115) (v := 0) (dAt D193 61 rfl) rfl (by decide) ?_
          refine e_goto (t := 120) (dAt D193 62 rfl) ⟨by decide, by decide⟩ ?_
          obtain ⟨f1, h⟩ := h
          replace h := h _ rfl
          refine e_zastore (pc' := 121) (dAt D193 64 rfl) rfl (hT.arr hOx0 19 rfl (by decide)).1 (hT.arr hOx0 19 rfl (by decide)).2 f1 (vz01 (Or.inl rfl)) ?_
          refine wtI hT (fun hT_25 => ?_)
          replace h := h _ rfl
          refine e_iinc (pc' := 124) (dAt D193 65 rfl) rfl rfl (Nat.le_of_ble_eq_true rfl) (congrArg (_ + ·) (show Int32.ofInt (-1) = (-1 : Int32) by decide)) rfl ?_
          refine e_goto (t := 56) (dAt D193 66 rfl) ⟨by decide, by decide⟩ ?_
          exact h
        · replace h := h.2 c
          refine e_iconst (pc' := 111) (v := 1) (dAt D193 59 rfl) rfl (by decide) ?_
          refine e_goto (t := 120) (dAt D193 60 rfl) ⟨by decide, by decide⟩ ?_
          obtain ⟨f1, h⟩ := h
          replace h := h _ rfl
          refine e_zastore (pc' := 121) (dAt D193 64 rfl) rfl (hT.arr hOx0 19 rfl (by decide)).1 (hT.arr hOx0 19 rfl (by decide)).2 f1 (vz01 (Or.inr rfl)) ?_
          refine wtI hT (fun hT_28 => ?_)
          replace h := h _ rfl
          refine e_iinc (pc' := 124) (dAt D193 65 rfl) rfl rfl (Nat.le_of_ble_eq_true rfl) (congrArg (_ + ·) (show Int32.ofInt (-1) = (-1 : Int32) by decide)) rfl ?_
          refine e_goto (t := 56) (dAt D193 66 rfl) ⟨by decide, by decide⟩ ?_
          exact h
    · replace h := h.2 c
      refine e_iload (pc' := 89) (dAt D193 47 rfl) rfl rfl ?_
      refine e_goto (t := 93) (dAt D193 48 rfl) ⟨by decide, by decide⟩ ?_
      refine e_istore_n (pc' := 94) (dAt D193 50 rfl) rfl (Nat.le_of_ble_eq_true rfl) rfl ?_
      refine e_aload_n (pc' := 95) (dAt D193 51 rfl) rfl rfl ?_
      refine e_getfield (pc' := 98) (dAt D193 52 rfl) rfl rfl hOx0 (hT.own hOx0 19 rfl) ?_
      refine e_iload (pc' := 100) (dAt D193 53 rfl) rfl rfl ?_
      refine e_iload_n (pc' := 101) (dAt D193 54 rfl) rfl rfl ?_
      refine e_iconst (pc' := 102) (v := 2) (dAt D193 55 rfl) rfl (by decide) ?_
      refine e_icmp_ne (t := 118) (pc' := 105) (dAt D193 56 rfl) ⟨by decide, by decide⟩ rfl (fun c => ?_) (fun c => ?_)
      · replace h := h.1 c
        refine e_iload (pc' := 120) (dAt D193 63 rfl) rfl rfl ?_
        obtain ⟨f1, h⟩ := h
        obtain ⟨f9, h⟩ := h
        replace h := h _ rfl
        refine e_zastore (pc' := 121) (dAt D193 64 rfl) rfl (hT.arr hOx0 19 rfl (by decide)).1 (hT.arr hOx0 19 rfl (by decide)).2 f1 (vz01 f9) ?_
        refine wtI hT (fun hT_31 => ?_)
        replace h := h _ rfl
        refine e_iinc (pc' := 124) (dAt D193 65 rfl) rfl rfl (Nat.le_of_ble_eq_true rfl) (congrArg (_ + ·) (show Int32.ofInt (-1) = (-1 : Int32) by decide)) rfl ?_
        refine e_goto (t := 56) (dAt D193 66 rfl) ⟨by decide, by decide⟩ ?_
        exact h
      · replace h := h.2 c
        refine e_iload (pc' := 107) (dAt D193 57 rfl) rfl rfl ?_
        refine e_if_ne (t := 114) (pc' := 110) (dAt D193 58 rfl) ⟨by decide, by decide⟩ rfl (fun c => ?_) (fun c => ?_)
        · replace h := h.1 c
          refine e_iconst (pc' := 115) (v := 0) (dAt D193 61 rfl) rfl (by decide) ?_
          refine e_goto (t := 120) (dAt D193 62 rfl) ⟨by decide, by decide⟩ ?_
          obtain ⟨f1, h⟩ := h
          replace h := h _ rfl
          refine e_zastore (pc' := 121) (dAt D193 64 rfl) rfl (hT.arr hOx0 19 rfl (by decide)).1 (hT.arr hOx0 19 rfl (by decide)).2 f1 (vz01 (Or.inl rfl)) ?_
          refine wtI hT (fun hT_34 => ?_)
          replace h := h _ rfl
          refine e_iinc (pc' := 124) (dAt D193 65 rfl) rfl rfl (Nat.le_of_ble_eq_true rfl) (congrArg (_ + ·) (show Int32.ofInt (-1) = (-1 : Int32) by decide)) rfl ?_
          refine e_goto (t := 56) (dAt D193 66 rfl) ⟨by decide, by decide⟩ ?_
          exact h
        · replace h := h.2 c
          refine e_iconst (pc' := 111) (v := 1) (dAt D193 59 rfl) rfl (by decide) ?_
          refine e_goto (t := 120) (dAt D193 60 rfl) ⟨by decide, by decide⟩ ?_
          obtain ⟨f1, h⟩ := h
          replace h := h _ rfl
          refine e_zastore (pc' := 121) (dAt D193 64 rfl) rfl (hT.arr hOx0 19 rfl (by decide)).1 (hT.arr hOx0 19 rfl (by decide)).2 f1 (vz01 (Or.inr rfl)) ?_
          refine wtI hT (fun hT_37 => ?_)
          replace h := h _ rfl
          refine e_iinc (pc' := 124) (dAt D193 65 rfl) rfl rfl (Nat.le_of_ble_eq_true rfl) (congrArg (_ + ·) (show Int32.ofInt (-1) = (-1 : Int32) by decide)) rfl ?_
          refine e_goto (t := 56) (dAt D193 66 rfl) ⟨by decide, by decide⟩ ?_
          exact h
-- PlaceNetsModel.dead.(I)I, from 148
set_option maxRecDepth 20000 in
theorem bk193_148 {d b : Nat} {Q : Option Value → mMem → Prop} {m : mMem} {x0 : Nat} {x1 : Int32} {x2 : Int32} {x3 : Int32} {x4 : Int32} {x5 : Option Value} {y0 : Int32} (hT : mWT m) (hOx0 : m.1 x0 = some (.inr 8) ∧ x0 ≠ 0)
    (h : Q (some (.int y0)) m) :
    mEs d 193 b g193 (148, [some (.ref x0), some (.int x1), some (.int x2), some (.int x3), some (.int x4), x5], [.int y0], m) Q := by
  exact e_ireturn (dAt D193 78 rfl) rfl ⟨rfl, fun e => by cases e⟩ h
-- PlaceNetsModel.isDead.(I)Z, from 0
set_option maxRecDepth 20000 in
theorem bk194_0 {d b : Nat} {Q : Option Value → mMem → Prop} {m : mMem} {x0 : Nat} {x1 : Int32} (hT : mWT m) (hOx0 : m.1 x0 = some (.inr 8) ∧ x0 ≠ 0)
    (h : mEv d 166 [.ref x0, .ref (64 * x0 + 15), .int (10 * x1)] m (fun r m' => mEs d 194 b g194 (12, [some (.ref x0), some (.int x1)], r.toList ++ [], m') Q)) :
    mEs d 194 b g194 (0, [some (.ref x0), some (.int x1)], [], m) Q := by
  refine e_aload_n (pc' := 1) (dAt D194 0 rfl) rfl rfl ?_
  refine e_aload_n (pc' := 2) (dAt D194 1 rfl) rfl rfl ?_
  refine e_getfield (pc' := 5) (dAt D194 2 rfl) rfl rfl hOx0 (hT.own hOx0 14 rfl) ?_
  refine e_bipush (pc' := 7) (v := 10) (dAt D194 3 rfl) rfl (by decide) ?_
  refine e_iload_n (pc' := 8) (dAt D194 4 rfl) rfl rfl ?_
  refine e_imul (pc' := 9) (dAt D194 5 rfl) rfl ?_
  exact e_call2 h (dAt D194 6 rfl) (hi0 rfl) rfl G166 (by decide) rfl (Nat.le_of_ble_eq_true rfl) (kV hOx0 rfl rfl) rfl rfl
-- PlaceNetsModel.isDead.(I)Z, from 12
set_option maxRecDepth 20000 in
theorem bk194_12 {d b : Nat} {Q : Option Value → mMem → Prop} {m : mMem} {x0 : Nat} {x1 : Int32} {y0 : Int32} (hT : mWT m) (hOx0 : m.1 x0 = some (.inr 8) ∧ x0 ≠ 0)
    (h : (((¬ y0 = 0) → (Q (some (.int 0)) m)) ∧ (¬ (¬ y0 = 0) → (Q (some (.int 1)) m)))) :
    mEs d 194 b g194 (12, [some (.ref x0), some (.int x1)], [.int y0], m) Q := by
  refine e_if_ne (t := 19) (pc' := 15) (dAt D194 7 rfl) ⟨by decide, by decide⟩ rfl (fun c => ?_) (fun c => ?_)
  · replace h := h.1 c
    refine e_iconst (pc' := 20) (v := 0) (dAt D194 10 rfl) rfl (by decide) ?_
    exact e_ireturn (dAt D194 11 rfl) rfl ⟨rfl, fun e => by cases e⟩ h
  · replace h := h.2 c
    refine e_iconst (pc' := 16) (v := 1) (dAt D194 8 rfl) rfl (by decide) ?_
    refine e_goto (t := 20) (dAt D194 9 rfl) ⟨by decide, by decide⟩ ?_
    exact e_ireturn (dAt D194 11 rfl) rfl ⟨rfl, fun e => by cases e⟩ h
-- PlaceNetsModel.back.()I, from 0
set_option maxRecDepth 20000 in
theorem bk195_0 {d b : Nat} {Q : Option Value → mMem → Prop} {m : mMem} {x0 : Nat} {x1 : Option Value} {x2 : Option Value} {x3 : Option Value} {x4 : Option Value} (hT : mWT m) (hOx0 : m.1 x0 = some (.inr 8) ∧ x0 ≠ 0)
    (h : mEs d 195 b g195 (2, [some (.ref x0), some (.int 1), x2, x3, x4], [], m) Q) :
    mEs d 195 b g195 (0, [some (.ref x0), x1, x2, x3, x4], [], m) Q := by
  refine e_iconst (pc' := 1) (v := 1) (dAt D195 0 rfl) rfl (by decide) ?_
  refine e_istore_n (pc' := 2) (dAt D195 1 rfl) rfl (Nat.le_of_ble_eq_true rfl) rfl ?_
  exact h
-- PlaceNetsModel.back.()I, from 2
set_option maxRecDepth 20000 in
theorem bk195_2 {d b : Nat} {Q : Option Value → mMem → Prop} {m : mMem} {x0 : Nat} {x1 : Int32} {x2 : Option Value} {x3 : Option Value} {x4 : Option Value} (hT : mWT m) (hOx0 : m.1 x0 = some (.inr 8) ∧ x0 ≠ 0)
    (h : (((x1 = 0) → (mEs d 195 b g195 (94, [some (.ref x0), some (.int x1), some (.int 0), some (.int 0), x4], [], m) Q)) ∧ (¬ (x1 = 0) → (mEs d 195 b g195 (10, [some (.ref x0), some (.int 0), some (.int 0), x3, x4], [], m) Q)))) :
    mEs d 195 b g195 (2, [some (.ref x0), some (.int x1), x2, x3, x4], [], m) Q := by
  refine e_iload_n (pc' := 3) (dAt D195 2 rfl) rfl rfl ?_
  refine e_if_eq (t := 90) (pc' := 6) (dAt D195 3 rfl) ⟨by decide, by decide⟩ rfl (fun c => ?_) (fun c => ?_)
  · replace h := h.1 c
    refine e_iconst (pc' := 91) (v := 0) (dAt D195 52 rfl) rfl (by decide) ?_
    refine e_istore_n (pc' := 92) (dAt D195 53 rfl) rfl (Nat.le_of_ble_eq_true rfl) rfl ?_
    refine e_iconst (pc' := 93) (v := 0) (dAt D195 54 rfl) rfl (by decide) ?_
    refine e_istore_n (pc' := 94) (dAt D195 55 rfl) rfl (Nat.le_of_ble_eq_true rfl) rfl ?_
    exact h
  · replace h := h.2 c
    refine e_iconst (pc' := 7) (v := 0) (dAt D195 4 rfl) rfl (by decide) ?_
    refine e_istore_n (pc' := 8) (dAt D195 5 rfl) rfl (Nat.le_of_ble_eq_true rfl) rfl ?_
    refine e_iconst (pc' := 9) (v := 0) (dAt D195 6 rfl) rfl (by decide) ?_
    refine e_istore_n (pc' := 10) (dAt D195 7 rfl) rfl (Nat.le_of_ble_eq_true rfl) rfl ?_
    exact h
-- PlaceNetsModel.back.()I, from 10
set_option maxRecDepth 20000 in
theorem bk195_10 {d b : Nat} {Q : Option Value → mMem → Prop} {m : mMem} {x0 : Nat} {x1 : Int32} {x2 : Int32} {x3 : Option Value} {x4 : Option Value} (hT : mWT m) (hOx0 : m.1 x0 = some (.inr 8) ∧ x0 ≠ 0)
    (h : ((((iF m x0 33) ≤ x2) → (mEs d 195 b g195 (2, [some (.ref x0), some (.int x1), some (.int x2), x3, x4], [], m) Q)) ∧ (¬ ((iF m x0 33) ≤ x2) → (mEs d 195 b g195 (20, [some (.ref x0), some (.int x1), some (.int x2), some (.int 0), x4], [], m) Q)))) :
    mEs d 195 b g195 (10, [some (.ref x0), some (.int x1), some (.int x2), x3, x4], [], m) Q := by
  refine e_iload_n (pc' := 11) (dAt D195 8 rfl) rfl rfl ?_
  refine e_aload_n (pc' := 12) (dAt D195 9 rfl) rfl rfl ?_
  refine e_getfield (pc' := 15) (dAt D195 10 rfl) rfl rfl hOx0 (hT.int hOx0 33 (by decide)) ?_
  refine e_icmp_ge (t := 87) (pc' := 18) (dAt D195 11 rfl) ⟨by decide, by decide⟩ rfl (fun c => ?_) (fun c => ?_)
  · replace h := h.1 c
    refine e_goto (t := 2) (dAt D195 51 rfl) ⟨by decide, by decide⟩ ?_
    exact h
  · replace h := h.2 c
    refine e_iconst (pc' := 19) (v := 0) (dAt D195 12 rfl) rfl (by decide) ?_
    refine e_istore_n (pc' := 20) (dAt D195 13 rfl) rfl (Nat.le_of_ble_eq_true rfl) rfl ?_
    exact h
-- PlaceNetsModel.back.()I, from 20
set_option maxRecDepth 20000 in
theorem bk195_20 {d b : Nat} {Q : Option Value → mMem → Prop} {m : mMem} {x0 : Nat} {x1 : Int32} {x2 : Int32} {x3 : Int32} {x4 : Option Value} (hT : mWT m) (hOx0 : m.1 x0 = some (.inr 8) ∧ x0 ≠ 0)
    (h : ((((iF m x0 7) ≤ x3) → (∀ (v_1 : Int32), v_1 = (x2 + 1) → mEs d 195 b g195 (10, [some (.ref x0), some (.int x1), some (.int v_1), some (.int x3), x4], [], m) Q)) ∧ (¬ ((iF m x0 7) ≤ x3) → ((mIn x2 301 = true) ∧ (((¬ (m.2.2.1 (64 * x0 + 20) x2.toNatClampNeg) = 0) → (∀ (v_2 : Int32), v_2 = (x2 + 1) → mEs d 195 b g195 (10, [some (.ref x0), some (.int x1), some (.int v_2), some (.int x3), x4], [], m) Q)) ∧ (¬ (¬ (m.2.2.1 (64 * x0 + 20) x2.toNatClampNeg) = 0) → ((mIn ((10 * x2) + x3) 3010 = true) ∧ (∀ (v_3 : Int32), v_3 = (m.2.2.1 (64 * x0 + 19) ((10 * x2) + x3).toNatClampNeg) → (((v_3 = ((-1))) → (∀ (v_4 : Int32), v_4 = (x3 + 1) → mEs d 195 b g195 (20, [some (.ref x0), some (.int x1), some (.int x2), some (.int v_4), some (.int v_3)], [], m) Q)) ∧ (¬ (v_3 = ((-1))) → ((mIn v_3 301 = true) ∧ ((((m.2.2.1 (64 * x0 + 20) v_3.toNatClampNeg) = 0) → (∀ (v_5 : Int32), v_5 = (x3 + 1) → mEs d 195 b g195 (20, [some (.ref x0), some (.int x1), some (.int x2), some (.int v_5), some (.int v_3)], [], m) Q)) ∧ (¬ ((m.2.2.1 (64 * x0 + 20) v_3.toNatClampNeg) = 0) → ((mIn x2 301 = true) ∧ (∀ (m_6 : mMem), m_6 = (mSetI m (64 * x0 + 20) (upd (m.2.2.1 (64 * x0 + 20)) x2.toNatClampNeg 1)) → ∀ (v_8 : Int32), v_8 = (x3 + 1) → mEs d 195 b g195 (20, [some (.ref x0), some (.int 1), some (.int x2), some (.int v_8), some (.int v_3)], [], m_6) Q))))))))))))))) :
    mEs d 195 b g195 (20, [some (.ref x0), some (.int x1), some (.int x2), some (.int x3), x4], [], m) Q := by
  refine e_iload_n (pc' := 21) (dAt D195 14 rfl) rfl rfl ?_
  refine e_aload_n (pc' := 22) (dAt D195 15 rfl) rfl rfl ?_
  refine e_getfield (pc' := 25) (dAt D195 16 rfl) rfl rfl hOx0 (hT.int hOx0 7 (by decide)) ?_
  refine e_icmp_ge (t := 81) (pc' := 28) (dAt D195 17 rfl) ⟨by decide, by decide⟩ rfl (fun c => ?_) (fun c => ?_)
  · replace h := h.1 c
    replace h := h _ rfl
    refine e_iinc (pc' := 84) (dAt D195 49 rfl) rfl rfl (Nat.le_of_ble_eq_true rfl) (congrArg (_ + ·) (show Int32.ofInt (1) = (1 : Int32) by decide)) rfl ?_
    refine e_goto (t := 10) (dAt D195 50 rfl) ⟨by decide, by decide⟩ ?_
    exact h
  · replace h := h.2 c
    refine e_aload_n (pc' := 29) (dAt D195 18 rfl) rfl rfl ?_
    refine e_getfield (pc' := 32) (dAt D195 19 rfl) rfl rfl hOx0 (hT.own hOx0 19 rfl) ?_
    refine e_iload_n (pc' := 33) (dAt D195 20 rfl) rfl rfl ?_
    obtain ⟨f1, h⟩ := h
    refine e_zaload (pc' := 34) (dAt D195 21 rfl) rfl (hT.arr hOx0 19 rfl (by decide)).1 (Or.inl (hT.arr hOx0 19 rfl (by decide)).2) f1 rfl ?_
    refine e_if_ne (t := 81) (pc' := 37) (dAt D195 22 rfl) ⟨by decide, by decide⟩ rfl (fun c => ?_) (fun c => ?_)
    · replace h := h.1 c
      replace h := h _ rfl
      refine e_iinc (pc' := 84) (dAt D195 49 rfl) rfl rfl (Nat.le_of_ble_eq_true rfl) (congrArg (_ + ·) (show Int32.ofInt (1) = (1 : Int32) by decide)) rfl ?_
      refine e_goto (t := 10) (dAt D195 50 rfl) ⟨by decide, by decide⟩ ?_
      exact h
    · replace h := h.2 c
      refine e_aload_n (pc' := 38) (dAt D195 23 rfl) rfl rfl ?_
      refine e_getfield (pc' := 41) (dAt D195 24 rfl) rfl rfl hOx0 (hT.own hOx0 18 rfl) ?_
      refine e_bipush (pc' := 43) (v := 10) (dAt D195 25 rfl) rfl (by decide) ?_
      refine e_iload_n (pc' := 44) (dAt D195 26 rfl) rfl rfl ?_
      refine e_imul (pc' := 45) (dAt D195 27 rfl) rfl ?_
      refine e_iload_n (pc' := 46) (dAt D195 28 rfl) rfl rfl ?_
      refine e_iadd (pc' := 47) (dAt D195 29 rfl) rfl ?_
      obtain ⟨f1, h⟩ := h
      refine e_iaload (pc' := 48) (dAt D195 30 rfl) rfl (hT.arr hOx0 18 rfl (by decide)).1 (Or.inl (hT.arr hOx0 18 rfl (by decide)).2) f1 rfl ?_
      replace h := h _ rfl
      refine e_istore (pc' := 50) (dAt D195 31 rfl) rfl (Nat.le_of_ble_eq_true rfl) rfl ?_
      refine e_iload (pc' := 52) (dAt D195 32 rfl) rfl rfl ?_
      refine e_iconst (pc' := 53) (v := (-1)) (dAt D195 33 rfl) rfl (by decide) ?_
      refine e_icmp_eq (t := 75) (pc' := 56) (dAt D195 34 rfl) ⟨by decide, by decide⟩ rfl (fun c => ?_) (fun c => ?_)
      · replace h := h.1 c
        replace h := h _ rfl
        refine e_iinc (pc' := 78) (dAt D195 47 rfl) rfl rfl (Nat.le_of_ble_eq_true rfl) (congrArg (_ + ·) (show Int32.ofInt (1) = (1 : Int32) by decide)) rfl ?_
        refine e_goto (t := 20) (dAt D195 48 rfl) ⟨by decide, by decide⟩ ?_
        exact h
      · replace h := h.2 c
        refine e_aload_n (pc' := 57) (dAt D195 35 rfl) rfl rfl ?_
        refine e_getfield (pc' := 60) (dAt D195 36 rfl) rfl rfl hOx0 (hT.own hOx0 19 rfl) ?_
        refine e_iload (pc' := 62) (dAt D195 37 rfl) rfl rfl ?_
        obtain ⟨f1, h⟩ := h
        refine e_zaload (pc' := 63) (dAt D195 38 rfl) rfl (hT.arr hOx0 19 rfl (by decide)).1 (Or.inl (hT.arr hOx0 19 rfl (by decide)).2) f1 rfl ?_
        refine e_if_eq (t := 75) (pc' := 66) (dAt D195 39 rfl) ⟨by decide, by decide⟩ rfl (fun c => ?_) (fun c => ?_)
        · replace h := h.1 c
          replace h := h _ rfl
          refine e_iinc (pc' := 78) (dAt D195 47 rfl) rfl rfl (Nat.le_of_ble_eq_true rfl) (congrArg (_ + ·) (show Int32.ofInt (1) = (1 : Int32) by decide)) rfl ?_
          refine e_goto (t := 20) (dAt D195 48 rfl) ⟨by decide, by decide⟩ ?_
          exact h
        · replace h := h.2 c
          refine e_aload_n (pc' := 67) (dAt D195 40 rfl) rfl rfl ?_
          refine e_getfield (pc' := 70) (dAt D195 41 rfl) rfl rfl hOx0 (hT.own hOx0 19 rfl) ?_
          refine e_iload_n (pc' := 71) (dAt D195 42 rfl) rfl rfl ?_
          refine e_iconst (pc' := 72) (v := 1) (dAt D195 43 rfl) rfl (by decide) ?_
          obtain ⟨f1, h⟩ := h
          replace h := h _ rfl
          refine e_zastore (pc' := 73) (dAt D195 44 rfl) rfl (hT.arr hOx0 19 rfl (by decide)).1 (hT.arr hOx0 19 rfl (by decide)).2 f1 (vz01 (Or.inr rfl)) ?_
          refine wtI hT (fun hT_7 => ?_)
          refine e_iconst (pc' := 74) (v := 1) (dAt D195 45 rfl) rfl (by decide) ?_
          refine e_istore_n (pc' := 75) (dAt D195 46 rfl) rfl (Nat.le_of_ble_eq_true rfl) rfl ?_
          replace h := h _ rfl
          refine e_iinc (pc' := 78) (dAt D195 47 rfl) rfl rfl (Nat.le_of_ble_eq_true rfl) (congrArg (_ + ·) (show Int32.ofInt (1) = (1 : Int32) by decide)) rfl ?_
          refine e_goto (t := 20) (dAt D195 48 rfl) ⟨by decide, by decide⟩ ?_
          exact h
-- PlaceNetsModel.back.()I, from 94
set_option maxRecDepth 20000 in
theorem bk195_94 {d b : Nat} {Q : Option Value → mMem → Prop} {m : mMem} {x0 : Nat} {x1 : Int32} {x2 : Int32} {x3 : Int32} {x4 : Option Value} (hT : mWT m) (hOx0 : m.1 x0 = some (.inr 8) ∧ x0 ≠ 0)
    (h : ((((iF m x0 33) ≤ x3) → (Q (some (.int x2)) m)) ∧ (¬ ((iF m x0 33) ≤ x3) → ((mIn x3 301 = true) ∧ ((((m.2.2.1 (64 * x0 + 20) x3.toNatClampNeg) = 0) → (∀ (v_1 : Int32), v_1 = (x2 + 0) → ∀ (v_2 : Int32), v_2 = (x3 + 1) → mEs d 195 b g195 (94, [some (.ref x0), some (.int x1), some (.int v_1), some (.int v_2), x4], [], m) Q)) ∧ (¬ ((m.2.2.1 (64 * x0 + 20) x3.toNatClampNeg) = 0) → (∀ (v_3 : Int32), v_3 = (x2 + 1) → ∀ (v_4 : Int32), v_4 = (x3 + 1) → mEs d 195 b g195 (94, [some (.ref x0), some (.int x1), some (.int v_3), some (.int v_4), x4], [], m) Q))))))) :
    mEs d 195 b g195 (94, [some (.ref x0), some (.int x1), some (.int x2), some (.int x3), x4], [], m) Q := by
  refine e_iload_n (pc' := 95) (dAt D195 56 rfl) rfl rfl ?_
  refine e_aload_n (pc' := 96) (dAt D195 57 rfl) rfl rfl ?_
  refine e_getfield (pc' := 99) (dAt D195 58 rfl) rfl rfl hOx0 (hT.int hOx0 33 (by decide)) ?_
  refine e_icmp_ge (t := 125) (pc' := 102) (dAt D195 59 rfl) ⟨by decide, by decide⟩ rfl (fun c => ?_) (fun c => ?_)
  · replace h := h.1 c
    refine e_iload_n (pc' := 126) (dAt D195 73 rfl) rfl rfl ?_
    exact e_ireturn (dAt D195 74 rfl) rfl ⟨rfl, fun e => by cases e⟩ h
  · replace h := h.2 c
    refine e_iload_n (pc' := 103) (dAt D195 60 rfl) rfl rfl ?_
    refine e_aload_n (pc' := 104) (dAt D195 61 rfl) rfl rfl ?_
    refine e_getfield (pc' := 107) (dAt D195 62 rfl) rfl rfl hOx0 (hT.own hOx0 19 rfl) ?_
    refine e_iload_n (pc' := 108) (dAt D195 63 rfl) rfl rfl ?_
    obtain ⟨f1, h⟩ := h
    refine e_zaload (pc' := 109) (dAt D195 64 rfl) rfl (hT.arr hOx0 19 rfl (by decide)).1 (Or.inl (hT.arr hOx0 19 rfl (by decide)).2) f1 rfl ?_
    refine e_if_eq (t := 116) (pc' := 112) (dAt D195 65 rfl) ⟨by decide, by decide⟩ rfl (fun c => ?_) (fun c => ?_)
    · replace h := h.1 c
      refine e_iconst (pc' := 117) (v := 0) (dAt D195 68 rfl) rfl (by decide) ?_
      refine e_iadd (pc' := 118) (dAt D195 69 rfl) rfl ?_
      replace h := h _ rfl
      refine e_istore_n (pc' := 119) (dAt D195 70 rfl) rfl (Nat.le_of_ble_eq_true rfl) rfl ?_
      replace h := h _ rfl
      refine e_iinc (pc' := 122) (dAt D195 71 rfl) rfl rfl (Nat.le_of_ble_eq_true rfl) (congrArg (_ + ·) (show Int32.ofInt (1) = (1 : Int32) by decide)) rfl ?_
      refine e_goto (t := 94) (dAt D195 72 rfl) ⟨by decide, by decide⟩ ?_
      exact h
    · replace h := h.2 c
      refine e_iconst (pc' := 113) (v := 1) (dAt D195 66 rfl) rfl (by decide) ?_
      refine e_goto (t := 117) (dAt D195 67 rfl) ⟨by decide, by decide⟩ ?_
      refine e_iadd (pc' := 118) (dAt D195 69 rfl) rfl ?_
      replace h := h _ rfl
      refine e_istore_n (pc' := 119) (dAt D195 70 rfl) rfl (Nat.le_of_ble_eq_true rfl) rfl ?_
      replace h := h _ rfl
      refine e_iinc (pc' := 122) (dAt D195 71 rfl) rfl rfl (Nat.le_of_ble_eq_true rfl) (congrArg (_ + ·) (show Int32.ofInt (1) = (1 : Int32) by decide)) rfl ?_
      refine e_goto (t := 94) (dAt D195 72 rfl) ⟨by decide, by decide⟩ ?_
      exact h
-- PlaceNetsModel.alive.(I)I, from 0
set_option maxRecDepth 20000 in
theorem bk196_0 {d b : Nat} {Q : Option Value → mMem → Prop} {m : mMem} {x0 : Nat} {x1 : Int32} {x2 : Option Value} {x3 : Option Value} (hT : mWT m) (hOx0 : m.1 x0 = some (.inr 8) ∧ x0 ≠ 0)
    (h : ∀ (m_1 : mMem), m_1 = (mSetF m x0 0 (.int 0)) → mEv d 160 [.ref x0, .int x1] m_1 (fun r m' => mEs d 196 b g196 (10, [some (.ref x0), some (.int x1), x2, x3], r.toList ++ [], m') Q)) :
    mEs d 196 b g196 (0, [some (.ref x0), some (.int x1), x2, x3], [], m) Q := by
  refine e_aload_n (pc' := 1) (dAt D196 0 rfl) rfl rfl ?_
  refine e_iconst (pc' := 2) (v := 0) (dAt D196 1 rfl) rfl (by decide) ?_
  replace h := h _ rfl
  refine e_putfield (pc' := 5) (dAt D196 2 rfl) rfl rfl hOx0 rfl rfl (fun e => by cases e) ?_
  refine wtF hT hOx0 (by decide) (fun hT_2 => ?_)
  refine e_aload_n (pc' := 6) (dAt D196 3 rfl) rfl rfl ?_
  refine e_iload_n (pc' := 7) (dAt D196 4 rfl) rfl rfl ?_
  exact e_call2 h (dAt D196 5 rfl) (hi0 rfl) rfl G160 (by decide) rfl (Nat.le_of_ble_eq_true rfl) (kV hOx0 rfl rfl) rfl rfl
-- PlaceNetsModel.alive.(I)I, from 10
set_option maxRecDepth 20000 in
theorem bk196_10 {d b : Nat} {Q : Option Value → mMem → Prop} {m : mMem} {x0 : Nat} {x1 : Int32} {x2 : Option Value} {x3 : Option Value} {y0 : Int32} (hT : mWT m) (hOx0 : m.1 x0 = some (.inr 8) ∧ x0 ≠ 0)
    (h : (((¬ y0 = 0) → (mEv d 190 [.ref x0] m (fun r m' => mEs d 196 b g196 (19, [some (.ref x0), some (.int x1), x2, x3], r.toList ++ [], m') Q))) ∧ (¬ (¬ y0 = 0) → (Q (some (.int ((-1)))) m)))) :
    mEs d 196 b g196 (10, [some (.ref x0), some (.int x1), x2, x3], [.int y0], m) Q := by
  refine e_if_ne (t := 15) (pc' := 13) (dAt D196 6 rfl) ⟨by decide, by decide⟩ rfl (fun c => ?_) (fun c => ?_)
  · replace h := h.1 c
    refine e_aload_n (pc' := 16) (dAt D196 9 rfl) rfl rfl ?_
    exact e_call2 h (dAt D196 10 rfl) (hi0 rfl) rfl G190 (by decide) rfl (Nat.le_of_ble_eq_true rfl) (kV hOx0 rfl rfl) rfl rfl
  · replace h := h.2 c
    refine e_iconst (pc' := 14) (v := (-1)) (dAt D196 7 rfl) rfl (by decide) ?_
    exact e_ireturn (dAt D196 8 rfl) rfl ⟨rfl, fun e => by cases e⟩ h
-- PlaceNetsModel.alive.(I)I, from 19
set_option maxRecDepth 20000 in
theorem bk196_19 {d b : Nat} {Q : Option Value → mMem → Prop} {m : mMem} {x0 : Nat} {x1 : Int32} {x2 : Option Value} {x3 : Option Value} (hT : mWT m) (hOx0 : m.1 x0 = some (.inr 8) ∧ x0 ≠ 0)
    (h : ((((iF m x0 33) ≤ 300) → (mEs d 196 b g196 (36, [some (.ref x0), some (.int x1), some (.int 0), some (.int 0)], [], m) Q)) ∧ (¬ ((iF m x0 33) ≤ 300) → (Q (some (.int ((-2)))) m)))) :
    mEs d 196 b g196 (19, [some (.ref x0), some (.int x1), x2, x3], [], m) Q := by
  refine e_aload_n (pc' := 20) (dAt D196 11 rfl) rfl rfl ?_
  refine e_getfield (pc' := 23) (dAt D196 12 rfl) rfl rfl hOx0 (hT.int hOx0 33 (by decide)) ?_
  refine e_sipush (pc' := 26) (v := 300) (dAt D196 13 rfl) rfl (by decide) ?_
  refine e_icmp_le (t := 32) (pc' := 29) (dAt D196 14 rfl) ⟨by decide, by decide⟩ rfl (fun c => ?_) (fun c => ?_)
  · replace h := h.1 c
    refine e_iconst (pc' := 33) (v := 0) (dAt D196 17 rfl) rfl (by decide) ?_
    refine e_istore_n (pc' := 34) (dAt D196 18 rfl) rfl (Nat.le_of_ble_eq_true rfl) rfl ?_
    refine e_iconst (pc' := 35) (v := 0) (dAt D196 19 rfl) rfl (by decide) ?_
    refine e_istore_n (pc' := 36) (dAt D196 20 rfl) rfl (Nat.le_of_ble_eq_true rfl) rfl ?_
    exact h
  · replace h := h.2 c
    refine e_bipush (pc' := 31) (v := (-2)) (dAt D196 15 rfl) rfl (by decide) ?_
    exact e_ireturn (dAt D196 16 rfl) rfl ⟨rfl, fun e => by cases e⟩ h
-- PlaceNetsModel.alive.(I)I, from 36
set_option maxRecDepth 20000 in
theorem bk196_36 {d b : Nat} {Q : Option Value → mMem → Prop} {m : mMem} {x0 : Nat} {x1 : Int32} {x2 : Int32} {x3 : Int32} (hT : mWT m) (hOx0 : m.1 x0 = some (.inr 8) ∧ x0 ≠ 0)
    (h : ((((iF m x0 33) ≤ x3) → (mEv d 195 [.ref x0] m (fun r m' => mEs d 196 b g196 (99, [some (.ref x0), some (.int x1), some (.int x2), some (.int x3)], r.toList ++ [], m') Q))) ∧ (¬ ((iF m x0 33) ≤ x3) → ((mIn ((10 * x3) + x1) 3010 = true) ∧ ((((m.2.2.1 (64 * x0 + 19) ((10 * x3) + x1).toNatClampNeg) = ((-1))) → ((mIn x3 301 = true) ∧ (∀ (m_1 : mMem), m_1 = (mSetI m (64 * x0 + 20) (upd (m.2.2.1 (64 * x0 + 20)) x3.toNatClampNeg 0)) → (((¬ x2 = 0) → (∀ (v_3 : Int32), v_3 = (x3 + 1) → mEs d 196 b g196 (36, [some (.ref x0), some (.int x1), some (.int 1), some (.int v_3)], [], m_1) Q)) ∧ (¬ (¬ x2 = 0) → ((mIn x3 301 = true) ∧ ((((m_1.2.2.1 (64 * x0 + 20) x3.toNatClampNeg) = 0) → (∀ (v_4 : Int32), v_4 = (x3 + 1) → mEs d 196 b g196 (36, [some (.ref x0), some (.int x1), some (.int 0), some (.int v_4)], [], m_1) Q)) ∧ (¬ ((m_1.2.2.1 (64 * x0 + 20) x3.toNatClampNeg) = 0) → (∀ (v_5 : Int32), v_5 = (x3 + 1) → mEs d 196 b g196 (36, [some (.ref x0), some (.int x1), some (.int 1), some (.int v_5)], [], m_1) Q))))))))) ∧ (¬ ((m.2.2.1 (64 * x0 + 19) ((10 * x3) + x1).toNatClampNeg) = ((-1))) → ((mIn x3 301 = true) ∧ (∀ (m_6 : mMem), m_6 = (mSetI m (64 * x0 + 20) (upd (m.2.2.1 (64 * x0 + 20)) x3.toNatClampNeg 1)) → (((¬ x2 = 0) → (∀ (v_8 : Int32), v_8 = (x3 + 1) → mEs d 196 b g196 (36, [some (.ref x0), some (.int x1), some (.int 1), some (.int v_8)], [], m_6) Q)) ∧ (¬ (¬ x2 = 0) → ((mIn x3 301 = true) ∧ ((((m_6.2.2.1 (64 * x0 + 20) x3.toNatClampNeg) = 0) → (∀ (v_9 : Int32), v_9 = (x3 + 1) → mEs d 196 b g196 (36, [some (.ref x0), some (.int x1), some (.int 0), some (.int v_9)], [], m_6) Q)) ∧ (¬ ((m_6.2.2.1 (64 * x0 + 20) x3.toNatClampNeg) = 0) → (∀ (v_10 : Int32), v_10 = (x3 + 1) → mEs d 196 b g196 (36, [some (.ref x0), some (.int x1), some (.int 1), some (.int v_10)], [], m_6) Q)))))))))))))) :
    mEs d 196 b g196 (36, [some (.ref x0), some (.int x1), some (.int x2), some (.int x3)], [], m) Q := by
  refine e_iload_n (pc' := 37) (dAt D196 21 rfl) rfl rfl ?_
  refine e_aload_n (pc' := 38) (dAt D196 22 rfl) rfl rfl ?_
  refine e_getfield (pc' := 41) (dAt D196 23 rfl) rfl rfl hOx0 (hT.int hOx0 33 (by decide)) ?_
  refine e_icmp_ge (t := 95) (pc' := 44) (dAt D196 24 rfl) ⟨by decide, by decide⟩ rfl (fun c => ?_) (fun c => ?_)
  · replace h := h.1 c
    refine e_aload_n (pc' := 96) (dAt D196 55 rfl) rfl rfl ?_
    exact e_call2 h (dAt D196 56 rfl) (hi0 rfl) rfl G195 (by decide) rfl (Nat.le_of_ble_eq_true rfl) (kV hOx0 rfl rfl) rfl rfl
  · replace h := h.2 c
    refine e_aload_n (pc' := 45) (dAt D196 25 rfl) rfl rfl ?_
    refine e_getfield (pc' := 48) (dAt D196 26 rfl) rfl rfl hOx0 (hT.own hOx0 19 rfl) ?_
    refine e_iload_n (pc' := 49) (dAt D196 27 rfl) rfl rfl ?_
    refine e_aload_n (pc' := 50) (dAt D196 28 rfl) rfl rfl ?_
    refine e_getfield (pc' := 53) (dAt D196 29 rfl) rfl rfl hOx0 (hT.own hOx0 18 rfl) ?_
    refine e_bipush (pc' := 55) (v := 10) (dAt D196 30 rfl) rfl (by decide) ?_
    refine e_iload_n (pc' := 56) (dAt D196 31 rfl) rfl rfl ?_
    refine e_imul (pc' := 57) (dAt D196 32 rfl) rfl ?_
    refine e_iload_n (pc' := 58) (dAt D196 33 rfl) rfl rfl ?_
    refine e_iadd (pc' := 59) (dAt D196 34 rfl) rfl ?_
    obtain ⟨f1, h⟩ := h
    refine e_iaload (pc' := 60) (dAt D196 35 rfl) rfl (hT.arr hOx0 18 rfl (by decide)).1 (Or.inl (hT.arr hOx0 18 rfl (by decide)).2) f1 rfl ?_
    refine e_iconst (pc' := 61) (v := (-1)) (dAt D196 36 rfl) rfl (by decide) ?_
    refine e_icmp_eq (t := 68) (pc' := 64) (dAt D196 37 rfl) ⟨by decide, by decide⟩ rfl (fun c => ?_) (fun c => ?_)
    · replace h := h.1 c
      refine e_iconst (pc' := 69) (v := 0) (dAt D196 40 rfl) rfl (by decide) ?_
      obtain ⟨f1, h⟩ := h
      replace h := h _ rfl
      refine e_zastore (pc' := 70) (dAt D196 41 rfl) rfl (hT.arr hOx0 19 rfl (by decide)).1 (hT.arr hOx0 19 rfl (by decide)).2 f1 (vz01 (Or.inl rfl)) ?_
      refine wtI hT (fun hT_2 => ?_)
      refine e_iload_n (pc' := 71) (dAt D196 42 rfl) rfl rfl ?_
      refine e_if_ne (t := 83) (pc' := 74) (dAt D196 43 rfl) ⟨by decide, by decide⟩ rfl (fun c => ?_) (fun c => ?_)
      · replace h := h.1 c
        refine e_iconst (pc' := 84) (v := 1) (dAt D196 49 rfl) rfl (by decide) ?_
        refine e_goto (t := 88) (dAt D196 50 rfl) ⟨by decide, by decide⟩ ?_
        refine e_istore_n (pc' := 89) (dAt D196 52 rfl) rfl (Nat.le_of_ble_eq_true rfl) rfl ?_
        replace h := h _ rfl
        refine e_iinc (pc' := 92) (dAt D196 53 rfl) rfl rfl (Nat.le_of_ble_eq_true rfl) (congrArg (_ + ·) (show Int32.ofInt (1) = (1 : Int32) by decide)) rfl ?_
        refine e_goto (t := 36) (dAt D196 54 rfl) ⟨by decide, by decide⟩ ?_
        exact h
      · replace h := h.2 c
        refine e_aload_n (pc' := 75) (dAt D196 44 rfl) rfl rfl ?_
        refine e_getfield (pc' := 78) (dAt D196 45 rfl) rfl rfl hOx0 (hT_2.own hOx0 19 rfl) ?_
        refine e_iload_n (pc' := 79) (dAt D196 46 rfl) rfl rfl ?_
        obtain ⟨f1, h⟩ := h
        refine e_zaload (pc' := 80) (dAt D196 47 rfl) rfl (hT_2.arr hOx0 19 rfl (by decide)).1 (Or.inl (hT_2.arr hOx0 19 rfl (by decide)).2) f1 rfl ?_
        refine e_if_eq (t := 87) (pc' := 83) (dAt D196 48 rfl) ⟨by decide, by decide⟩ rfl (fun c => ?_) (fun c => ?_)
        · replace h := h.1 c
          refine e_iconst (pc' := 88) (v := 0) (dAt D196 51 rfl) rfl (by decide) ?_
          refine e_istore_n (pc' := 89) (dAt D196 52 rfl) rfl (Nat.le_of_ble_eq_true rfl) rfl ?_
          replace h := h _ rfl
          refine e_iinc (pc' := 92) (dAt D196 53 rfl) rfl rfl (Nat.le_of_ble_eq_true rfl) (congrArg (_ + ·) (show Int32.ofInt (1) = (1 : Int32) by decide)) rfl ?_
          refine e_goto (t := 36) (dAt D196 54 rfl) ⟨by decide, by decide⟩ ?_
          exact h
        · replace h := h.2 c
          refine e_iconst (pc' := 84) (v := 1) (dAt D196 49 rfl) rfl (by decide) ?_
          refine e_goto (t := 88) (dAt D196 50 rfl) ⟨by decide, by decide⟩ ?_
          refine e_istore_n (pc' := 89) (dAt D196 52 rfl) rfl (Nat.le_of_ble_eq_true rfl) rfl ?_
          replace h := h _ rfl
          refine e_iinc (pc' := 92) (dAt D196 53 rfl) rfl rfl (Nat.le_of_ble_eq_true rfl) (congrArg (_ + ·) (show Int32.ofInt (1) = (1 : Int32) by decide)) rfl ?_
          refine e_goto (t := 36) (dAt D196 54 rfl) ⟨by decide, by decide⟩ ?_
          exact h
    · replace h := h.2 c
      refine e_iconst (pc' := 65) (v := 1) (dAt D196 38 rfl) rfl (by decide) ?_
      refine e_goto (t := 69) (dAt D196 39 rfl) ⟨by decide, by decide⟩ ?_
      obtain ⟨f1, h⟩ := h
      replace h := h _ rfl
      refine e_zastore (pc' := 70) (dAt D196 41 rfl) rfl (hT.arr hOx0 19 rfl (by decide)).1 (hT.arr hOx0 19 rfl (by decide)).2 f1 (vz01 (Or.inr rfl)) ?_
      refine wtI hT (fun hT_7 => ?_)
      refine e_iload_n (pc' := 71) (dAt D196 42 rfl) rfl rfl ?_
      refine e_if_ne (t := 83) (pc' := 74) (dAt D196 43 rfl) ⟨by decide, by decide⟩ rfl (fun c => ?_) (fun c => ?_)
      · replace h := h.1 c
        refine e_iconst (pc' := 84) (v := 1) (dAt D196 49 rfl) rfl (by decide) ?_
        refine e_goto (t := 88) (dAt D196 50 rfl) ⟨by decide, by decide⟩ ?_
        refine e_istore_n (pc' := 89) (dAt D196 52 rfl) rfl (Nat.le_of_ble_eq_true rfl) rfl ?_
        replace h := h _ rfl
        refine e_iinc (pc' := 92) (dAt D196 53 rfl) rfl rfl (Nat.le_of_ble_eq_true rfl) (congrArg (_ + ·) (show Int32.ofInt (1) = (1 : Int32) by decide)) rfl ?_
        refine e_goto (t := 36) (dAt D196 54 rfl) ⟨by decide, by decide⟩ ?_
        exact h
      · replace h := h.2 c
        refine e_aload_n (pc' := 75) (dAt D196 44 rfl) rfl rfl ?_
        refine e_getfield (pc' := 78) (dAt D196 45 rfl) rfl rfl hOx0 (hT_7.own hOx0 19 rfl) ?_
        refine e_iload_n (pc' := 79) (dAt D196 46 rfl) rfl rfl ?_
        obtain ⟨f1, h⟩ := h
        refine e_zaload (pc' := 80) (dAt D196 47 rfl) rfl (hT_7.arr hOx0 19 rfl (by decide)).1 (Or.inl (hT_7.arr hOx0 19 rfl (by decide)).2) f1 rfl ?_
        refine e_if_eq (t := 87) (pc' := 83) (dAt D196 48 rfl) ⟨by decide, by decide⟩ rfl (fun c => ?_) (fun c => ?_)
        · replace h := h.1 c
          refine e_iconst (pc' := 88) (v := 0) (dAt D196 51 rfl) rfl (by decide) ?_
          refine e_istore_n (pc' := 89) (dAt D196 52 rfl) rfl (Nat.le_of_ble_eq_true rfl) rfl ?_
          replace h := h _ rfl
          refine e_iinc (pc' := 92) (dAt D196 53 rfl) rfl rfl (Nat.le_of_ble_eq_true rfl) (congrArg (_ + ·) (show Int32.ofInt (1) = (1 : Int32) by decide)) rfl ?_
          refine e_goto (t := 36) (dAt D196 54 rfl) ⟨by decide, by decide⟩ ?_
          exact h
        · replace h := h.2 c
          refine e_iconst (pc' := 84) (v := 1) (dAt D196 49 rfl) rfl (by decide) ?_
          refine e_goto (t := 88) (dAt D196 50 rfl) ⟨by decide, by decide⟩ ?_
          refine e_istore_n (pc' := 89) (dAt D196 52 rfl) rfl (Nat.le_of_ble_eq_true rfl) rfl ?_
          replace h := h _ rfl
          refine e_iinc (pc' := 92) (dAt D196 53 rfl) rfl rfl (Nat.le_of_ble_eq_true rfl) (congrArg (_ + ·) (show Int32.ofInt (1) = (1 : Int32) by decide)) rfl ?_
          refine e_goto (t := 36) (dAt D196 54 rfl) ⟨by decide, by decide⟩ ?_
          exact h
-- PlaceNetsModel.alive.(I)I, from 99
set_option maxRecDepth 20000 in
theorem bk196_99 {d b : Nat} {Q : Option Value → mMem → Prop} {m : mMem} {x0 : Nat} {x1 : Int32} {x2 : Int32} {x3 : Int32} {y0 : Int32} (hT : mWT m) (hOx0 : m.1 x0 = some (.inr 8) ∧ x0 ≠ 0)
    (h : (((¬ y0 = (iF m x0 33)) → (((x2 = 0) → (Q (some (.int 0)) m)) ∧ (¬ (x2 = 0) → (Q (some (.int 1)) m)))) ∧ (¬ (¬ y0 = (iF m x0 33)) → (Q (some (.int 2)) m)))) :
    mEs d 196 b g196 (99, [some (.ref x0), some (.int x1), some (.int x2), some (.int x3)], [.int y0], m) Q := by
  refine e_aload_n (pc' := 100) (dAt D196 57 rfl) rfl rfl ?_
  refine e_getfield (pc' := 103) (dAt D196 58 rfl) rfl rfl hOx0 (hT.int hOx0 33 (by decide)) ?_
  refine e_icmp_ne (t := 110) (pc' := 106) (dAt D196 59 rfl) ⟨by decide, by decide⟩ rfl (fun c => ?_) (fun c => ?_)
  · replace h := h.1 c
    refine e_iload_n (pc' := 111) (dAt D196 62 rfl) rfl rfl ?_
    refine e_if_eq (t := 118) (pc' := 114) (dAt D196 63 rfl) ⟨by decide, by decide⟩ rfl (fun c => ?_) (fun c => ?_)
    · replace h := h.1 c
      refine e_iconst (pc' := 119) (v := 0) (dAt D196 66 rfl) rfl (by decide) ?_
      exact e_ireturn (dAt D196 67 rfl) rfl ⟨rfl, fun e => by cases e⟩ h
    · replace h := h.2 c
      refine e_iconst (pc' := 115) (v := 1) (dAt D196 64 rfl) rfl (by decide) ?_
      refine e_goto (t := 119) (dAt D196 65 rfl) ⟨by decide, by decide⟩ ?_
      exact e_ireturn (dAt D196 67 rfl) rfl ⟨rfl, fun e => by cases e⟩ h
  · replace h := h.2 c
    refine e_iconst (pc' := 107) (v := 2) (dAt D196 60 rfl) rfl (by decide) ?_
    refine e_goto (t := 119) (dAt D196 61 rfl) ⟨by decide, by decide⟩ ?_
    exact e_ireturn (dAt D196 67 rfl) rfl ⟨rfl, fun e => by cases e⟩ h
-- PlaceNetsModel.way.(I)I, from 0
set_option maxRecDepth 20000 in
theorem bk197_0 {d b : Nat} {Q : Option Value → mMem → Prop} {m : mMem} {x0 : Nat} {x1 : Int32} {x2 : Option Value} (hT : mWT m) (hOx0 : m.1 x0 = some (.inr 8) ∧ x0 ≠ 0)
    (h : ∀ (m_1 : mMem), m_1 = (mSetF m x0 0 (.int 0)) → ((((iF m_1 x0 18) = 0) → (Q (some (.int ((-1)))) m_1)) ∧ (¬ ((iF m_1 x0 18) = 0) → (((((-1)) ≤ x1) → (mEv d 190 [.ref x0] m_1 (fun r m' => mEs d 197 b g197 (23, [some (.ref x0), some (.int x1), x2], r.toList ++ [], m') Q))) ∧ (¬ (((-1)) ≤ x1) → (Q (some (.int ((-1)))) m_1)))))) :
    mEs d 197 b g197 (0, [some (.ref x0), some (.int x1), x2], [], m) Q := by
  refine e_aload_n (pc' := 1) (dAt D197 0 rfl) rfl rfl ?_
  refine e_iconst (pc' := 2) (v := 0) (dAt D197 1 rfl) rfl (by decide) ?_
  replace h := h _ rfl
  refine e_putfield (pc' := 5) (dAt D197 2 rfl) rfl rfl hOx0 rfl rfl (fun e => by cases e) ?_
  refine wtF hT hOx0 (by decide) (fun hT_2 => ?_)
  refine e_aload_n (pc' := 6) (dAt D197 3 rfl) rfl rfl ?_
  refine e_getfield (pc' := 9) (dAt D197 4 rfl) rfl rfl hOx0 (hT_2.int hOx0 18 (by decide)) ?_
  refine e_if_eq (t := 17) (pc' := 12) (dAt D197 5 rfl) ⟨by decide, by decide⟩ rfl (fun c => ?_) (fun c => ?_)
  · replace h := h.1 c
    refine e_iconst (pc' := 18) (v := (-1)) (dAt D197 9 rfl) rfl (by decide) ?_
    exact e_ireturn (dAt D197 10 rfl) rfl ⟨rfl, fun e => by cases e⟩ h
  · replace h := h.2 c
    refine e_iload_n (pc' := 13) (dAt D197 6 rfl) rfl rfl ?_
    refine e_iconst (pc' := 14) (v := (-1)) (dAt D197 7 rfl) rfl (by decide) ?_
    refine e_icmp_ge (t := 19) (pc' := 17) (dAt D197 8 rfl) ⟨by decide, by decide⟩ rfl (fun c => ?_) (fun c => ?_)
    · replace h := h.1 c
      refine e_aload_n (pc' := 20) (dAt D197 11 rfl) rfl rfl ?_
      exact e_call2 h (dAt D197 12 rfl) (hi0 rfl) rfl G190 (by decide) rfl (Nat.le_of_ble_eq_true rfl) (kV hOx0 rfl rfl) rfl rfl
    · replace h := h.2 c
      refine e_iconst (pc' := 18) (v := (-1)) (dAt D197 9 rfl) rfl (by decide) ?_
      exact e_ireturn (dAt D197 10 rfl) rfl ⟨rfl, fun e => by cases e⟩ h
-- PlaceNetsModel.way.(I)I, from 23
set_option maxRecDepth 20000 in
theorem bk197_23 {d b : Nat} {Q : Option Value → mMem → Prop} {m : mMem} {x0 : Nat} {x1 : Int32} {x2 : Option Value} (hT : mWT m) (hOx0 : m.1 x0 = some (.inr 8) ∧ x0 ≠ 0)
    (h : ((((iF m x0 33) ≤ 300) → (mEv d 198 [.ref x0] m (fun r m' => mEs d 197 b g197 (40, [some (.ref x0), some (.int x1), x2], r.toList ++ [], m') Q))) ∧ (¬ ((iF m x0 33) ≤ 300) → (Q (some (.int ((-2)))) m)))) :
    mEs d 197 b g197 (23, [some (.ref x0), some (.int x1), x2], [], m) Q := by
  refine e_aload_n (pc' := 24) (dAt D197 13 rfl) rfl rfl ?_
  refine e_getfield (pc' := 27) (dAt D197 14 rfl) rfl rfl hOx0 (hT.int hOx0 33 (by decide)) ?_
  refine e_sipush (pc' := 30) (v := 300) (dAt D197 15 rfl) rfl (by decide) ?_
  refine e_icmp_le (t := 36) (pc' := 33) (dAt D197 16 rfl) ⟨by decide, by decide⟩ rfl (fun c => ?_) (fun c => ?_)
  · replace h := h.1 c
    refine e_aload_n (pc' := 37) (dAt D197 19 rfl) rfl rfl ?_
    exact e_call2 h (dAt D197 20 rfl) (hi0 rfl) rfl G198 (by decide) rfl (Nat.le_of_ble_eq_true rfl) (kV hOx0 rfl rfl) rfl rfl
  · replace h := h.2 c
    refine e_bipush (pc' := 35) (v := (-2)) (dAt D197 17 rfl) rfl (by decide) ?_
    exact e_ireturn (dAt D197 18 rfl) rfl ⟨rfl, fun e => by cases e⟩ h
-- PlaceNetsModel.way.(I)I, from 40
set_option maxRecDepth 20000 in
theorem bk197_40 {d b : Nat} {Q : Option Value → mMem → Prop} {m : mMem} {x0 : Nat} {x1 : Int32} {x2 : Option Value} {y0 : Int32} (hT : mWT m) (hOx0 : m.1 x0 = some (.inr 8) ∧ x0 ≠ 0)
    (h : (((¬ y0 = ((-1))) → (((x1 = ((-1))) → (((¬ x1 = ((-1))) → (Q (some (.int ((-1)))) m)) ∧ (¬ (¬ x1 = ((-1))) → ((mIn y0 301 = true) ∧ (Q (some (.int (m.2.2.1 (64 * x0 + 18) y0.toNatClampNeg))) m))))) ∧ (¬ (x1 = ((-1))) → ((mIn y0 301 = true) ∧ (((x1 < (m.2.2.1 (64 * x0 + 18) y0.toNatClampNeg)) → (mEs d 197 b g197 (80, [some (.ref x0), some (.int x1), some (.int y0)], [], m) Q)) ∧ (¬ (x1 < (m.2.2.1 (64 * x0 + 18) y0.toNatClampNeg)) → (((¬ x1 = ((-1))) → (Q (some (.int ((-1)))) m)) ∧ (¬ (¬ x1 = ((-1))) → ((mIn y0 301 = true) ∧ (Q (some (.int (m.2.2.1 (64 * x0 + 18) y0.toNatClampNeg))) m)))))))))) ∧ (¬ (¬ y0 = ((-1))) → (Q (some (.int ((-3)))) m)))) :
    mEs d 197 b g197 (40, [some (.ref x0), some (.int x1), x2], [.int y0], m) Q := by
  refine e_istore_n (pc' := 41) (dAt D197 21 rfl) rfl (Nat.le_of_ble_eq_true rfl) rfl ?_
  refine e_iload_n (pc' := 42) (dAt D197 22 rfl) rfl rfl ?_
  refine e_iconst (pc' := 43) (v := (-1)) (dAt D197 23 rfl) rfl (by decide) ?_
  refine e_icmp_ne (t := 49) (pc' := 46) (dAt D197 24 rfl) ⟨by decide, by decide⟩ rfl (fun c => ?_) (fun c => ?_)
  · replace h := h.1 c
    refine e_iload_n (pc' := 50) (dAt D197 27 rfl) rfl rfl ?_
    refine e_iconst (pc' := 51) (v := (-1)) (dAt D197 28 rfl) rfl (by decide) ?_
    refine e_icmp_eq (t := 64) (pc' := 54) (dAt D197 29 rfl) ⟨by decide, by decide⟩ rfl (fun c => ?_) (fun c => ?_)
    · replace h := h.1 c
      refine e_iload_n (pc' := 65) (dAt D197 36 rfl) rfl rfl ?_
      refine e_iconst (pc' := 66) (v := (-1)) (dAt D197 37 rfl) rfl (by decide) ?_
      refine e_icmp_ne (t := 78) (pc' := 69) (dAt D197 38 rfl) ⟨by decide, by decide⟩ rfl (fun c => ?_) (fun c => ?_)
      · replace h := h.1 c
        refine e_iconst (pc' := 79) (v := (-1)) (dAt D197 44 rfl) rfl (by decide) ?_
        exact e_ireturn (dAt D197 45 rfl) rfl ⟨rfl, fun e => by cases e⟩ h
      · replace h := h.2 c
        refine e_aload_n (pc' := 70) (dAt D197 39 rfl) rfl rfl ?_
        refine e_getfield (pc' := 73) (dAt D197 40 rfl) rfl rfl hOx0 (hT.own hOx0 17 rfl) ?_
        refine e_iload_n (pc' := 74) (dAt D197 41 rfl) rfl rfl ?_
        obtain ⟨f1, h⟩ := h
        refine e_iaload (pc' := 75) (dAt D197 42 rfl) rfl (hT.arr hOx0 17 rfl (by decide)).1 (Or.inl (hT.arr hOx0 17 rfl (by decide)).2) f1 rfl ?_
        refine e_goto (t := 79) (dAt D197 43 rfl) ⟨by decide, by decide⟩ ?_
        exact e_ireturn (dAt D197 45 rfl) rfl ⟨rfl, fun e => by cases e⟩ h
    · replace h := h.2 c
      refine e_iload_n (pc' := 55) (dAt D197 30 rfl) rfl rfl ?_
      refine e_aload_n (pc' := 56) (dAt D197 31 rfl) rfl rfl ?_
      refine e_getfield (pc' := 59) (dAt D197 32 rfl) rfl rfl hOx0 (hT.own hOx0 17 rfl) ?_
      refine e_iload_n (pc' := 60) (dAt D197 33 rfl) rfl rfl ?_
      obtain ⟨f1, h⟩ := h
      refine e_iaload (pc' := 61) (dAt D197 34 rfl) rfl (hT.arr hOx0 17 rfl (by decide)).1 (Or.inl (hT.arr hOx0 17 rfl (by decide)).2) f1 rfl ?_
      refine e_icmp_lt (t := 80) (pc' := 64) (dAt D197 35 rfl) ⟨by decide, by decide⟩ rfl (fun c => ?_) (fun c => ?_)
      · replace h := h.1 c
        exact h
      · replace h := h.2 c
        refine e_iload_n (pc' := 65) (dAt D197 36 rfl) rfl rfl ?_
        refine e_iconst (pc' := 66) (v := (-1)) (dAt D197 37 rfl) rfl (by decide) ?_
        refine e_icmp_ne (t := 78) (pc' := 69) (dAt D197 38 rfl) ⟨by decide, by decide⟩ rfl (fun c => ?_) (fun c => ?_)
        · replace h := h.1 c
          refine e_iconst (pc' := 79) (v := (-1)) (dAt D197 44 rfl) rfl (by decide) ?_
          exact e_ireturn (dAt D197 45 rfl) rfl ⟨rfl, fun e => by cases e⟩ h
        · replace h := h.2 c
          refine e_aload_n (pc' := 70) (dAt D197 39 rfl) rfl rfl ?_
          refine e_getfield (pc' := 73) (dAt D197 40 rfl) rfl rfl hOx0 (hT.own hOx0 17 rfl) ?_
          refine e_iload_n (pc' := 74) (dAt D197 41 rfl) rfl rfl ?_
          obtain ⟨f1, h⟩ := h
          refine e_iaload (pc' := 75) (dAt D197 42 rfl) rfl (hT.arr hOx0 17 rfl (by decide)).1 (Or.inl (hT.arr hOx0 17 rfl (by decide)).2) f1 rfl ?_
          refine e_goto (t := 79) (dAt D197 43 rfl) ⟨by decide, by decide⟩ ?_
          exact e_ireturn (dAt D197 45 rfl) rfl ⟨rfl, fun e => by cases e⟩ h
  · replace h := h.2 c
    refine e_bipush (pc' := 48) (v := (-3)) (dAt D197 25 rfl) rfl (by decide) ?_
    exact e_ireturn (dAt D197 26 rfl) rfl ⟨rfl, fun e => by cases e⟩ h
-- PlaceNetsModel.way.(I)I, from 80
set_option maxRecDepth 20000 in
theorem bk197_80 {d b : Nat} {Q : Option Value → mMem → Prop} {m : mMem} {x0 : Nat} {x1 : Int32} {x2 : Int32} (hT : mWT m) (hOx0 : m.1 x0 = some (.inr 8) ∧ x0 ≠ 0)
    (h : (mIn x2 301 = true) ∧ ((((m.2.2.1 (64 * x0 + 18) x2.toNatClampNeg) ≤ (x1 + 1)) → ((mIn x2 301 = true) ∧ (Q (some (.int (m.2.2.1 (64 * x0 + 17) x2.toNatClampNeg))) m))) ∧ (¬ ((m.2.2.1 (64 * x0 + 18) x2.toNatClampNeg) ≤ (x1 + 1)) → ((mIn x2 301 = true) ∧ (∀ (v_1 : Int32), v_1 = (m.2.2.1 (64 * x0 + 16) x2.toNatClampNeg) → mEs d 197 b g197 (80, [some (.ref x0), some (.int x1), some (.int v_1)], [], m) Q))))) :
    mEs d 197 b g197 (80, [some (.ref x0), some (.int x1), some (.int x2)], [], m) Q := by
  refine e_aload_n (pc' := 81) (dAt D197 46 rfl) rfl rfl ?_
  refine e_getfield (pc' := 84) (dAt D197 47 rfl) rfl rfl hOx0 (hT.own hOx0 17 rfl) ?_
  refine e_iload_n (pc' := 85) (dAt D197 48 rfl) rfl rfl ?_
  obtain ⟨f1, h⟩ := h
  refine e_iaload (pc' := 86) (dAt D197 49 rfl) rfl (hT.arr hOx0 17 rfl (by decide)).1 (Or.inl (hT.arr hOx0 17 rfl (by decide)).2) f1 rfl ?_
  refine e_iload_n (pc' := 87) (dAt D197 50 rfl) rfl rfl ?_
  refine e_iconst (pc' := 88) (v := 1) (dAt D197 51 rfl) rfl (by decide) ?_
  refine e_iadd (pc' := 89) (dAt D197 52 rfl) rfl ?_
  refine e_icmp_le (t := 102) (pc' := 92) (dAt D197 53 rfl) ⟨by decide, by decide⟩ rfl (fun c => ?_) (fun c => ?_)
  · replace h := h.1 c
    refine e_aload_n (pc' := 103) (dAt D197 60 rfl) rfl rfl ?_
    refine e_getfield (pc' := 106) (dAt D197 61 rfl) rfl rfl hOx0 (hT.own hOx0 16 rfl) ?_
    refine e_iload_n (pc' := 107) (dAt D197 62 rfl) rfl rfl ?_
    obtain ⟨f1, h⟩ := h
    refine e_iaload (pc' := 108) (dAt D197 63 rfl) rfl (hT.arr hOx0 16 rfl (by decide)).1 (Or.inl (hT.arr hOx0 16 rfl (by decide)).2) f1 rfl ?_
    exact e_ireturn (dAt D197 64 rfl) rfl ⟨rfl, fun e => by cases e⟩ h
  · replace h := h.2 c
    refine e_aload_n (pc' := 93) (dAt D197 54 rfl) rfl rfl ?_
    refine e_getfield (pc' := 96) (dAt D197 55 rfl) rfl rfl hOx0 (hT.own hOx0 15 rfl) ?_
    refine e_iload_n (pc' := 97) (dAt D197 56 rfl) rfl rfl ?_
    obtain ⟨f1, h⟩ := h
    refine e_iaload (pc' := 98) (dAt D197 57 rfl) rfl (hT.arr hOx0 15 rfl (by decide)).1 (Or.inl (hT.arr hOx0 15 rfl (by decide)).2) f1 rfl ?_
    replace h := h _ rfl
    refine e_istore_n (pc' := 99) (dAt D197 58 rfl) rfl (Nat.le_of_ble_eq_true rfl) rfl ?_
    refine e_goto (t := 80) (dAt D197 59 rfl) ⟨by decide, by decide⟩ ?_
    exact h
-- PlaceNetsModel.goalAt.()I, from 0
set_option maxRecDepth 20000 in
theorem bk198_0 {d b : Nat} {Q : Option Value → mMem → Prop} {m : mMem} {x0 : Nat} {x1 : Option Value} {x2 : Option Value} {x3 : Option Value} (hT : mWT m) (hOx0 : m.1 x0 = some (.inr 8) ∧ x0 ≠ 0)
    (h : mEs d 198 b g198 (2, [some (.ref x0), some (.int 0), x2, x3], [], m) Q) :
    mEs d 198 b g198 (0, [some (.ref x0), x1, x2, x3], [], m) Q := by
  refine e_iconst (pc' := 1) (v := 0) (dAt D198 0 rfl) rfl (by decide) ?_
  refine e_istore_n (pc' := 2) (dAt D198 1 rfl) rfl (Nat.le_of_ble_eq_true rfl) rfl ?_
  exact h
-- PlaceNetsModel.goalAt.()I, from 2
set_option maxRecDepth 20000 in
theorem bk198_2 {d b : Nat} {Q : Option Value → mMem → Prop} {m : mMem} {x0 : Nat} {x1 : Int32} {x2 : Option Value} {x3 : Option Value} (hT : mWT m) (hOx0 : m.1 x0 = some (.inr 8) ∧ x0 ≠ 0)
    (h : ((((iF m x0 33) ≤ x1) → (Q (some (.int ((-1)))) m)) ∧ (¬ ((iF m x0 33) ≤ x1) → (mEs d 198 b g198 (14, [some (.ref x0), some (.int x1), some (.int 1), some (.int 0)], [], m) Q)))) :
    mEs d 198 b g198 (2, [some (.ref x0), some (.int x1), x2, x3], [], m) Q := by
  refine e_iload_n (pc' := 3) (dAt D198 2 rfl) rfl rfl ?_
  refine e_aload_n (pc' := 4) (dAt D198 3 rfl) rfl rfl ?_
  refine e_getfield (pc' := 7) (dAt D198 4 rfl) rfl rfl hOx0 (hT.int hOx0 33 (by decide)) ?_
  refine e_icmp_ge (t := 70) (pc' := 10) (dAt D198 5 rfl) ⟨by decide, by decide⟩ rfl (fun c => ?_) (fun c => ?_)
  · replace h := h.1 c
    refine e_iconst (pc' := 71) (v := (-1)) (dAt D198 41 rfl) rfl (by decide) ?_
    exact e_ireturn (dAt D198 42 rfl) rfl ⟨rfl, fun e => by cases e⟩ h
  · replace h := h.2 c
    refine e_iconst (pc' := 11) (v := 1) (dAt D198 6 rfl) rfl (by decide) ?_
    refine e_istore_n (pc' := 12) (dAt D198 7 rfl) rfl (Nat.le_of_ble_eq_true rfl) rfl ?_
    refine e_iconst (pc' := 13) (v := 0) (dAt D198 8 rfl) rfl (by decide) ?_
    refine e_istore_n (pc' := 14) (dAt D198 9 rfl) rfl (Nat.le_of_ble_eq_true rfl) rfl ?_
    exact h
-- PlaceNetsModel.goalAt.()I, from 14
set_option maxRecDepth 20000 in
theorem bk198_14 {d b : Nat} {Q : Option Value → mMem → Prop} {m : mMem} {x0 : Nat} {x1 : Int32} {x2 : Int32} {x3 : Int32} (hT : mWT m) (hOx0 : m.1 x0 = some (.inr 8) ∧ x0 ≠ 0)
    (h : ((((iF m x0 6) ≤ x3) → (((x2 = 0) → (∀ (v_1 : Int32), v_1 = (x1 + 1) → mEs d 198 b g198 (2, [some (.ref x0), some (.int v_1), some (.int x2), some (.int x3)], [], m) Q)) ∧ (¬ (x2 = 0) → (Q (some (.int x1)) m)))) ∧ (¬ ((iF m x0 6) ≤ x3) → (((x2 = 0) → (∀ (v_2 : Int32), v_2 = (x3 + 1) → mEs d 198 b g198 (14, [some (.ref x0), some (.int x1), some (.int 0), some (.int v_2)], [], m) Q)) ∧ (¬ (x2 = 0) → ((mIn ((10 * x1) + x3) 3010 = true) ∧ ((mIn x3 10 = true) ∧ (((¬ (m.2.2.1 (64 * x0 + 15) ((10 * x1) + x3).toNatClampNeg) = (m.2.2.1 (64 * x0 + 6) x3.toNatClampNeg)) → (∀ (v_3 : Int32), v_3 = (x3 + 1) → mEs d 198 b g198 (14, [some (.ref x0), some (.int x1), some (.int 0), some (.int v_3)], [], m) Q)) ∧ (¬ (¬ (m.2.2.1 (64 * x0 + 15) ((10 * x1) + x3).toNatClampNeg) = (m.2.2.1 (64 * x0 + 6) x3.toNatClampNeg)) → (∀ (v_4 : Int32), v_4 = (x3 + 1) → mEs d 198 b g198 (14, [some (.ref x0), some (.int x1), some (.int 1), some (.int v_4)], [], m) Q)))))))))) :
    mEs d 198 b g198 (14, [some (.ref x0), some (.int x1), some (.int x2), some (.int x3)], [], m) Q := by
  refine e_iload_n (pc' := 15) (dAt D198 10 rfl) rfl rfl ?_
  refine e_aload_n (pc' := 16) (dAt D198 11 rfl) rfl rfl ?_
  refine e_getfield (pc' := 19) (dAt D198 12 rfl) rfl rfl hOx0 (hT.int hOx0 6 (by decide)) ?_
  refine e_icmp_ge (t := 58) (pc' := 22) (dAt D198 13 rfl) ⟨by decide, by decide⟩ rfl (fun c => ?_) (fun c => ?_)
  · replace h := h.1 c
    refine e_iload_n (pc' := 59) (dAt D198 35 rfl) rfl rfl ?_
    refine e_if_eq (t := 64) (pc' := 62) (dAt D198 36 rfl) ⟨by decide, by decide⟩ rfl (fun c => ?_) (fun c => ?_)
    · replace h := h.1 c
      replace h := h _ rfl
      refine e_iinc (pc' := 67) (dAt D198 39 rfl) rfl rfl (Nat.le_of_ble_eq_true rfl) (congrArg (_ + ·) (show Int32.ofInt (1) = (1 : Int32) by decide)) rfl ?_
      refine e_goto (t := 2) (dAt D198 40 rfl) ⟨by decide, by decide⟩ ?_
      exact h
    · replace h := h.2 c
      refine e_iload_n (pc' := 63) (dAt D198 37 rfl) rfl rfl ?_
      exact e_ireturn (dAt D198 38 rfl) rfl ⟨rfl, fun e => by cases e⟩ h
  · replace h := h.2 c
    refine e_iload_n (pc' := 23) (dAt D198 14 rfl) rfl rfl ?_
    refine e_if_eq (t := 50) (pc' := 26) (dAt D198 15 rfl) ⟨by decide, by decide⟩ rfl (fun c => ?_) (fun c => ?_)
    · replace h := h.1 c
      refine e_iconst (pc' := 51) (v := 0) (dAt D198 31 rfl) rfl (by decide) ?_
      refine e_istore_n (pc' := 52) (dAt D198 32 rfl) rfl (Nat.le_of_ble_eq_true rfl) rfl ?_
      replace h := h _ rfl
      refine e_iinc (pc' := 55) (dAt D198 33 rfl) rfl rfl (Nat.le_of_ble_eq_true rfl) (congrArg (_ + ·) (show Int32.ofInt (1) = (1 : Int32) by decide)) rfl ?_
      refine e_goto (t := 14) (dAt D198 34 rfl) ⟨by decide, by decide⟩ ?_
      exact h
    · replace h := h.2 c
      refine e_aload_n (pc' := 27) (dAt D198 16 rfl) rfl rfl ?_
      refine e_getfield (pc' := 30) (dAt D198 17 rfl) rfl rfl hOx0 (hT.own hOx0 14 rfl) ?_
      refine e_bipush (pc' := 32) (v := 10) (dAt D198 18 rfl) rfl (by decide) ?_
      refine e_iload_n (pc' := 33) (dAt D198 19 rfl) rfl rfl ?_
      refine e_imul (pc' := 34) (dAt D198 20 rfl) rfl ?_
      refine e_iload_n (pc' := 35) (dAt D198 21 rfl) rfl rfl ?_
      refine e_iadd (pc' := 36) (dAt D198 22 rfl) rfl ?_
      obtain ⟨f1, h⟩ := h
      refine e_iaload (pc' := 37) (dAt D198 23 rfl) rfl (hT.arr hOx0 14 rfl (by decide)).1 (Or.inl (hT.arr hOx0 14 rfl (by decide)).2) f1 rfl ?_
      refine e_aload_n (pc' := 38) (dAt D198 24 rfl) rfl rfl ?_
      refine e_getfield (pc' := 41) (dAt D198 25 rfl) rfl rfl hOx0 (hT.own hOx0 5 rfl) ?_
      refine e_iload_n (pc' := 42) (dAt D198 26 rfl) rfl rfl ?_
      obtain ⟨f1, h⟩ := h
      refine e_iaload (pc' := 43) (dAt D198 27 rfl) rfl (hT.arr hOx0 5 rfl (by decide)).1 (Or.inl (hT.arr hOx0 5 rfl (by decide)).2) f1 rfl ?_
      refine e_icmp_ne (t := 50) (pc' := 46) (dAt D198 28 rfl) ⟨by decide, by decide⟩ rfl (fun c => ?_) (fun c => ?_)
      · replace h := h.1 c
        refine e_iconst (pc' := 51) (v := 0) (dAt D198 31 rfl) rfl (by decide) ?_
        refine e_istore_n (pc' := 52) (dAt D198 32 rfl) rfl (Nat.le_of_ble_eq_true rfl) rfl ?_
        replace h := h _ rfl
        refine e_iinc (pc' := 55) (dAt D198 33 rfl) rfl rfl (Nat.le_of_ble_eq_true rfl) (congrArg (_ + ·) (show Int32.ofInt (1) = (1 : Int32) by decide)) rfl ?_
        refine e_goto (t := 14) (dAt D198 34 rfl) ⟨by decide, by decide⟩ ?_
        exact h
      · replace h := h.2 c
        refine e_iconst (pc' := 47) (v := 1) (dAt D198 29 rfl) rfl (by decide) ?_
        refine e_goto (t := 51) (dAt D198 30 rfl) ⟨by decide, by decide⟩ ?_
        refine e_istore_n (pc' := 52) (dAt D198 32 rfl) rfl (Nat.le_of_ble_eq_true rfl) rfl ?_
        replace h := h _ rfl
        refine e_iinc (pc' := 55) (dAt D198 33 rfl) rfl rfl (Nat.le_of_ble_eq_true rfl) (congrArg (_ + ·) (show Int32.ofInt (1) = (1 : Int32) by decide)) rfl ?_
        refine e_goto (t := 14) (dAt D198 34 rfl) ⟨by decide, by decide⟩ ?_
        exact h
-- PlaceNetsModel.flow.(III)I, from 0
set_option maxRecDepth 20000 in
theorem bk199_0 {d b : Nat} {Q : Option Value → mMem → Prop} {m : mMem} {x0 : Nat} {x1 : Int32} {x2 : Int32} {x3 : Int32} (hT : mWT m) (hOx0 : m.1 x0 = some (.inr 8) ∧ x0 ≠ 0)
    (h : ∀ (m_1 : mMem), m_1 = (mSetF m x0 0 (.int 0)) → ((((iF m_1 x0 18) = 0) → (Q (some (.int ((-1)))) m_1)) ∧ (¬ ((iF m_1 x0 18) = 0) → (mEv d 151 [.long x1.toInt64, .long 0, .long 1] m_1 (fun r m' => mEs d 199 b g199 (19, [some (.ref x0), some (.int x1), some (.int x2), some (.int x3)], r.toList ++ [], m') Q))))) :
    mEs d 199 b g199 (0, [some (.ref x0), some (.int x1), some (.int x2), some (.int x3)], [], m) Q := by
  refine e_aload_n (pc' := 1) (dAt D199 0 rfl) rfl rfl ?_
  refine e_iconst (pc' := 2) (v := 0) (dAt D199 1 rfl) rfl (by decide) ?_
  replace h := h _ rfl
  refine e_putfield (pc' := 5) (dAt D199 2 rfl) rfl rfl hOx0 rfl rfl (fun e => by cases e) ?_
  refine wtF hT hOx0 (by decide) (fun hT_2 => ?_)
  refine e_aload_n (pc' := 6) (dAt D199 3 rfl) rfl rfl ?_
  refine e_getfield (pc' := 9) (dAt D199 4 rfl) rfl rfl hOx0 (hT_2.int hOx0 18 (by decide)) ?_
  refine e_if_eq (t := 49) (pc' := 12) (dAt D199 5 rfl) ⟨by decide, by decide⟩ rfl (fun c => ?_) (fun c => ?_)
  · replace h := h.1 c
    refine e_iconst (pc' := 50) (v := (-1)) (dAt D199 29 rfl) rfl (by decide) ?_
    exact e_ireturn (dAt D199 30 rfl) rfl ⟨rfl, fun e => by cases e⟩ h
  · replace h := h.2 c
    refine e_iload_n (pc' := 13) (dAt D199 6 rfl) rfl rfl ?_
    refine e_i2l (pc' := 14) (dAt D199 7 rfl) rfl ?_
    refine e_lconst (pc' := 15) (v := 0) (dAt D199 8 rfl) rfl (by decide) ?_
    refine e_lconst (pc' := 16) (v := 1) (dAt D199 9 rfl) rfl (by decide) ?_
    exact e_call2 h (dAt D199 10 rfl) (hi2 rfl) rfl G151 (by decide) rfl (Nat.le_of_ble_eq_true rfl) rfl rfl rfl
-- PlaceNetsModel.flow.(III)I, from 19
set_option maxRecDepth 20000 in
theorem bk199_19 {d b : Nat} {Q : Option Value → mMem → Prop} {m : mMem} {x0 : Nat} {x1 : Int32} {x2 : Int32} {x3 : Int32} {y0 : Int32} (hT : mWT m) (hOx0 : m.1 x0 = some (.inr 8) ∧ x0 ≠ 0)
    (h : (((y0 = 0) → (Q (some (.int ((-1)))) m)) ∧ (¬ (y0 = 0) → (((x2 < ((-1))) → (Q (some (.int ((-1)))) m)) ∧ (¬ (x2 < ((-1))) → (((x2 = ((-1))) → (mEv d 201 [.ref x0, .int x1] m (fun r m' => mEs d 199 b g199 (56, [some (.ref x0), some (.int x1), some (.int x2), some (.int x3)], r.toList ++ [], m') Q))) ∧ (¬ (x2 = ((-1))) → (mEv d 200 [.ref x0, .int x1] m (fun r m' => mEs d 199 b g199 (40, [some (.ref x0), some (.int x1), some (.int x2), some (.int x3)], r.toList ++ [.long 0, .long x3.toInt64], m') Q))))))))) :
    mEs d 199 b g199 (19, [some (.ref x0), some (.int x1), some (.int x2), some (.int x3)], [.int y0], m) Q := by
  refine e_if_eq (t := 49) (pc' := 22) (dAt D199 11 rfl) ⟨by decide, by decide⟩ rfl (fun c => ?_) (fun c => ?_)
  · replace h := h.1 c
    refine e_iconst (pc' := 50) (v := (-1)) (dAt D199 29 rfl) rfl (by decide) ?_
    exact e_ireturn (dAt D199 30 rfl) rfl ⟨rfl, fun e => by cases e⟩ h
  · replace h := h.2 c
    refine e_iload_n (pc' := 23) (dAt D199 12 rfl) rfl rfl ?_
    refine e_iconst (pc' := 24) (v := (-1)) (dAt D199 13 rfl) rfl (by decide) ?_
    refine e_icmp_lt (t := 49) (pc' := 27) (dAt D199 14 rfl) ⟨by decide, by decide⟩ rfl (fun c => ?_) (fun c => ?_)
    · replace h := h.1 c
      refine e_iconst (pc' := 50) (v := (-1)) (dAt D199 29 rfl) rfl (by decide) ?_
      exact e_ireturn (dAt D199 30 rfl) rfl ⟨rfl, fun e => by cases e⟩ h
    · replace h := h.2 c
      refine e_iload_n (pc' := 28) (dAt D199 15 rfl) rfl rfl ?_
      refine e_iconst (pc' := 29) (v := (-1)) (dAt D199 16 rfl) rfl (by decide) ?_
      refine e_icmp_eq (t := 51) (pc' := 32) (dAt D199 17 rfl) ⟨by decide, by decide⟩ rfl (fun c => ?_) (fun c => ?_)
      · replace h := h.1 c
        refine e_aload_n (pc' := 52) (dAt D199 31 rfl) rfl rfl ?_
        refine e_iload_n (pc' := 53) (dAt D199 32 rfl) rfl rfl ?_
        exact e_call2 h (dAt D199 33 rfl) (hi0 rfl) rfl G201 (by decide) rfl (Nat.le_of_ble_eq_true rfl) (kV hOx0 rfl rfl) rfl rfl
      · replace h := h.2 c
        refine e_iload_n (pc' := 33) (dAt D199 18 rfl) rfl rfl ?_
        refine e_i2l (pc' := 34) (dAt D199 19 rfl) rfl ?_
        refine e_lconst (pc' := 35) (v := 0) (dAt D199 20 rfl) rfl (by decide) ?_
        refine e_aload_n (pc' := 36) (dAt D199 21 rfl) rfl rfl ?_
        refine e_iload_n (pc' := 37) (dAt D199 22 rfl) rfl rfl ?_
        exact e_call2 h (dAt D199 23 rfl) (hi0 rfl) rfl G200 (by decide) rfl (Nat.le_of_ble_eq_true rfl) (kV hOx0 rfl rfl) rfl rfl
-- PlaceNetsModel.flow.(III)I, from 40
set_option maxRecDepth 20000 in
theorem bk199_40 {d b : Nat} {Q : Option Value → mMem → Prop} {m : mMem} {x0 : Nat} {x1 : Int32} {x2 : Int32} {x3 : Int32} {y0 : Int64} {y1 : Int64} {y2 : Int32} (hT : mWT m) (hOx0 : m.1 x0 = some (.inr 8) ∧ x0 ≠ 0)
    (h : mEv d 151 [.long y0, .long y1, .long (y2.toInt64 - 1)] m (fun r m' => mEs d 199 b g199 (46, [some (.ref x0), some (.int x1), some (.int x2), some (.int x3)], r.toList ++ [], m') Q)) :
    mEs d 199 b g199 (40, [some (.ref x0), some (.int x1), some (.int x2), some (.int x3)], [.int y2, .long y1, .long y0], m) Q := by
  refine e_i2l (pc' := 41) (dAt D199 24 rfl) rfl ?_
  refine e_lconst (pc' := 42) (v := 1) (dAt D199 25 rfl) rfl (by decide) ?_
  refine e_lsub (pc' := 43) (dAt D199 26 rfl) rfl ?_
  exact e_call2 h (dAt D199 27 rfl) (hi2 rfl) rfl G151 (by decide) rfl (Nat.le_of_ble_eq_true rfl) rfl rfl rfl
-- PlaceNetsModel.flow.(III)I, from 46
set_option maxRecDepth 20000 in
theorem bk199_46 {d b : Nat} {Q : Option Value → mMem → Prop} {m : mMem} {x0 : Nat} {x1 : Int32} {x2 : Int32} {x3 : Int32} {y0 : Int32} (hT : mWT m) (hOx0 : m.1 x0 = some (.inr 8) ∧ x0 ≠ 0)
    (h : (((¬ y0 = 0) → (mEv d 201 [.ref x0, .int x1] m (fun r m' => mEs d 199 b g199 (56, [some (.ref x0), some (.int x1), some (.int x2), some (.int x3)], r.toList ++ [], m') Q))) ∧ (¬ (¬ y0 = 0) → (Q (some (.int ((-1)))) m)))) :
    mEs d 199 b g199 (46, [some (.ref x0), some (.int x1), some (.int x2), some (.int x3)], [.int y0], m) Q := by
  refine e_if_ne (t := 51) (pc' := 49) (dAt D199 28 rfl) ⟨by decide, by decide⟩ rfl (fun c => ?_) (fun c => ?_)
  · replace h := h.1 c
    refine e_aload_n (pc' := 52) (dAt D199 31 rfl) rfl rfl ?_
    refine e_iload_n (pc' := 53) (dAt D199 32 rfl) rfl rfl ?_
    exact e_call2 h (dAt D199 33 rfl) (hi0 rfl) rfl G201 (by decide) rfl (Nat.le_of_ble_eq_true rfl) (kV hOx0 rfl rfl) rfl rfl
  · replace h := h.2 c
    refine e_iconst (pc' := 50) (v := (-1)) (dAt D199 29 rfl) rfl (by decide) ?_
    exact e_ireturn (dAt D199 30 rfl) rfl ⟨rfl, fun e => by cases e⟩ h
-- PlaceNetsModel.flow.(III)I, from 56
set_option maxRecDepth 20000 in
theorem bk199_56 {d b : Nat} {Q : Option Value → mMem → Prop} {m : mMem} {x0 : Nat} {x1 : Int32} {x2 : Int32} {x3 : Int32} (hT : mWT m) (hOx0 : m.1 x0 = some (.inr 8) ∧ x0 ≠ 0)
    (h : (mIn x1 2 = true) ∧ ((((m.2.2.1 (64 * x0 + 22) x1.toNatClampNeg) = ((-2))) → ((mIn x1 2 = true) ∧ (Q (some (.int (m.2.2.1 (64 * x0 + 22) x1.toNatClampNeg))) m))) ∧ (¬ ((m.2.2.1 (64 * x0 + 22) x1.toNatClampNeg) = ((-2))) → (((¬ x2 = ((-1))) → ((mIn x1 2 = true) ∧ ((((m.2.2.1 (64 * x0 + 22) x1.toNatClampNeg) ≤ x2) → (Q (some (.int ((-1)))) m)) ∧ (¬ ((m.2.2.1 (64 * x0 + 22) x1.toNatClampNeg) ≤ x2) → ((mIn (((3000 * x1) + (10 * x2)) + x3) 6000 = true) ∧ (Q (some (.int (m.2.2.1 (64 * x0 + 23) (((3000 * x1) + (10 * x2)) + x3).toNatClampNeg))) m)))))) ∧ (¬ (¬ x2 = ((-1))) → ((mIn x1 2 = true) ∧ (Q (some (.int (m.2.2.1 (64 * x0 + 22) x1.toNatClampNeg))) m))))))) :
    mEs d 199 b g199 (56, [some (.ref x0), some (.int x1), some (.int x2), some (.int x3)], [], m) Q := by
  refine e_aload_n (pc' := 57) (dAt D199 34 rfl) rfl rfl ?_
  refine e_getfield (pc' := 60) (dAt D199 35 rfl) rfl rfl hOx0 (hT.own hOx0 21 rfl) ?_
  refine e_iload_n (pc' := 61) (dAt D199 36 rfl) rfl rfl ?_
  obtain ⟨f1, h⟩ := h
  refine e_iaload (pc' := 62) (dAt D199 37 rfl) rfl (hT.arr hOx0 21 rfl (by decide)).1 (Or.inl (hT.arr hOx0 21 rfl (by decide)).2) f1 rfl ?_
  refine e_bipush (pc' := 64) (v := (-2)) (dAt D199 38 rfl) rfl (by decide) ?_
  refine e_icmp_eq (t := 72) (pc' := 67) (dAt D199 39 rfl) ⟨by decide, by decide⟩ rfl (fun c => ?_) (fun c => ?_)
  · replace h := h.1 c
    refine e_aload_n (pc' := 73) (dAt D199 43 rfl) rfl rfl ?_
    refine e_getfield (pc' := 76) (dAt D199 44 rfl) rfl rfl hOx0 (hT.own hOx0 21 rfl) ?_
    refine e_iload_n (pc' := 77) (dAt D199 45 rfl) rfl rfl ?_
    obtain ⟨f1, h⟩ := h
    refine e_iaload (pc' := 78) (dAt D199 46 rfl) rfl (hT.arr hOx0 21 rfl (by decide)).1 (Or.inl (hT.arr hOx0 21 rfl (by decide)).2) f1 rfl ?_
    exact e_ireturn (dAt D199 47 rfl) rfl ⟨rfl, fun e => by cases e⟩ h
  · replace h := h.2 c
    refine e_iload_n (pc' := 68) (dAt D199 40 rfl) rfl rfl ?_
    refine e_iconst (pc' := 69) (v := (-1)) (dAt D199 41 rfl) rfl (by decide) ?_
    refine e_icmp_ne (t := 79) (pc' := 72) (dAt D199 42 rfl) ⟨by decide, by decide⟩ rfl (fun c => ?_) (fun c => ?_)
    · replace h := h.1 c
      refine e_iload_n (pc' := 80) (dAt D199 48 rfl) rfl rfl ?_
      refine e_aload_n (pc' := 81) (dAt D199 49 rfl) rfl rfl ?_
      refine e_getfield (pc' := 84) (dAt D199 50 rfl) rfl rfl hOx0 (hT.own hOx0 21 rfl) ?_
      refine e_iload_n (pc' := 85) (dAt D199 51 rfl) rfl rfl ?_
      obtain ⟨f1, h⟩ := h
      refine e_iaload (pc' := 86) (dAt D199 52 rfl) rfl (hT.arr hOx0 21 rfl (by decide)).1 (Or.inl (hT.arr hOx0 21 rfl (by decide)).2) f1 rfl ?_
      refine e_icmp_ge (t := 109) (pc' := 89) (dAt D199 53 rfl) ⟨by decide, by decide⟩ rfl (fun c => ?_) (fun c => ?_)
      · replace h := h.1 c
        refine e_iconst (pc' := 110) (v := (-1)) (dAt D199 67 rfl) rfl (by decide) ?_
        exact e_ireturn (dAt D199 68 rfl) rfl ⟨rfl, fun e => by cases e⟩ h
      · replace h := h.2 c
        refine e_aload_n (pc' := 90) (dAt D199 54 rfl) rfl rfl ?_
        refine e_getfield (pc' := 93) (dAt D199 55 rfl) rfl rfl hOx0 (hT.own hOx0 22 rfl) ?_
        refine e_sipush (pc' := 96) (v := 3000) (dAt D199 56 rfl) rfl (by decide) ?_
        refine e_iload_n (pc' := 97) (dAt D199 57 rfl) rfl rfl ?_
        refine e_imul (pc' := 98) (dAt D199 58 rfl) rfl ?_
        refine e_bipush (pc' := 100) (v := 10) (dAt D199 59 rfl) rfl (by decide) ?_
        refine e_iload_n (pc' := 101) (dAt D199 60 rfl) rfl rfl ?_
        refine e_imul (pc' := 102) (dAt D199 61 rfl) rfl ?_
        refine e_iadd (pc' := 103) (dAt D199 62 rfl) rfl ?_
        refine e_iload_n (pc' := 104) (dAt D199 63 rfl) rfl rfl ?_
        refine e_iadd (pc' := 105) (dAt D199 64 rfl) rfl ?_
        obtain ⟨f1, h⟩ := h
        refine e_iaload (pc' := 106) (dAt D199 65 rfl) rfl (hT.arr hOx0 22 rfl (by decide)).1 (Or.inl (hT.arr hOx0 22 rfl (by decide)).2) f1 rfl ?_
        refine e_goto (t := 110) (dAt D199 66 rfl) ⟨by decide, by decide⟩ ?_
        exact e_ireturn (dAt D199 68 rfl) rfl ⟨rfl, fun e => by cases e⟩ h
    · replace h := h.2 c
      refine e_aload_n (pc' := 73) (dAt D199 43 rfl) rfl rfl ?_
      refine e_getfield (pc' := 76) (dAt D199 44 rfl) rfl rfl hOx0 (hT.own hOx0 21 rfl) ?_
      refine e_iload_n (pc' := 77) (dAt D199 45 rfl) rfl rfl ?_
      obtain ⟨f1, h⟩ := h
      refine e_iaload (pc' := 78) (dAt D199 46 rfl) rfl (hT.arr hOx0 21 rfl (by decide)).1 (Or.inl (hT.arr hOx0 21 rfl (by decide)).2) f1 rfl ?_
      exact e_ireturn (dAt D199 47 rfl) rfl ⟨rfl, fun e => by cases e⟩ h
-- PlaceNetsModel.width.(I)I, from 0
set_option maxRecDepth 20000 in
theorem bk200_0 {d b : Nat} {Q : Option Value → mMem → Prop} {m : mMem} {x0 : Nat} {x1 : Int32} (hT : mWT m) (hOx0 : m.1 x0 = some (.inr 8) ∧ x0 ≠ 0)
    (h : (((¬ x1 = 0) → (Q (some (.int (iF m x0 7))) m)) ∧ (¬ (¬ x1 = 0) → (Q (some (.int (iF m x0 6))) m)))) :
    mEs d 200 b g200 (0, [some (.ref x0), some (.int x1)], [], m) Q := by
  refine e_iload_n (pc' := 1) (dAt D200 0 rfl) rfl rfl ?_
  refine e_if_ne (t := 11) (pc' := 4) (dAt D200 1 rfl) ⟨by decide, by decide⟩ rfl (fun c => ?_) (fun c => ?_)
  · replace h := h.1 c
    refine e_aload_n (pc' := 12) (dAt D200 5 rfl) rfl rfl ?_
    refine e_getfield (pc' := 15) (dAt D200 6 rfl) rfl rfl hOx0 (hT.int hOx0 7 (by decide)) ?_
    exact e_ireturn (dAt D200 7 rfl) rfl ⟨rfl, fun e => by cases e⟩ h
  · replace h := h.2 c
    refine e_aload_n (pc' := 5) (dAt D200 2 rfl) rfl rfl ?_
    refine e_getfield (pc' := 8) (dAt D200 3 rfl) rfl rfl hOx0 (hT.int hOx0 6 (by decide)) ?_
    refine e_goto (t := 15) (dAt D200 4 rfl) ⟨by decide, by decide⟩ ?_
    exact e_ireturn (dAt D200 7 rfl) rfl ⟨rfl, fun e => by cases e⟩ h
-- PlaceNetsModel.layFlows.(I)V, from 0
set_option maxRecDepth 20000 in
theorem bk201_0 {d b : Nat} {Q : Option Value → mMem → Prop} {m : mMem} {x0 : Nat} {x1 : Int32} {x2 : Option Value} {x3 : Option Value} {x4 : Option Value} {x5 : Option Value} (hT : mWT m) (hOx0 : m.1 x0 = some (.inr 8) ∧ x0 ≠ 0)
    (h : (mIn x1 2 = true) ∧ ((((m.2.2.1 (64 * x0 + 21) x1.toNatClampNeg) = 0) → ((mIn x1 2 = true) ∧ (∀ (m_1 : mMem), m_1 = (mSetI m (64 * x0 + 21) (upd (m.2.2.1 (64 * x0 + 21)) x1.toNatClampNeg 1)) → ∀ (m_3 : mMem), m_3 = (mSetF m_1 x0 42 (.int 0)) → mEv d 202 [.ref x0, .int x1] m_3 (fun r m' => mEs d 201 b g201 (27, [some (.ref x0), some (.int x1), x2, x3, x4, x5], r.toList ++ [], m') Q)))) ∧ (¬ ((m.2.2.1 (64 * x0 + 21) x1.toNatClampNeg) = 0) → (Q none m)))) :
    mEs d 201 b g201 (0, [some (.ref x0), some (.int x1), x2, x3, x4, x5], [], m) Q := by
  refine e_aload_n (pc' := 1) (dAt D201 0 rfl) rfl rfl ?_
  refine e_getfield (pc' := 4) (dAt D201 1 rfl) rfl rfl hOx0 (hT.own hOx0 20 rfl) ?_
  refine e_iload_n (pc' := 5) (dAt D201 2 rfl) rfl rfl ?_
  obtain ⟨f1, h⟩ := h
  refine e_zaload (pc' := 6) (dAt D201 3 rfl) rfl (hT.arr hOx0 20 rfl (by decide)).1 (Or.inl (hT.arr hOx0 20 rfl (by decide)).2) f1 rfl ?_
  refine e_if_eq (t := 10) (pc' := 9) (dAt D201 4 rfl) ⟨by decide, by decide⟩ rfl (fun c => ?_) (fun c => ?_)
  · replace h := h.1 c
    refine e_aload_n (pc' := 11) (dAt D201 6 rfl) rfl rfl ?_
    refine e_getfield (pc' := 14) (dAt D201 7 rfl) rfl rfl hOx0 (hT.own hOx0 20 rfl) ?_
    refine e_iload_n (pc' := 15) (dAt D201 8 rfl) rfl rfl ?_
    refine e_iconst (pc' := 16) (v := 1) (dAt D201 9 rfl) rfl (by decide) ?_
    obtain ⟨f1, h⟩ := h
    replace h := h _ rfl
    refine e_zastore (pc' := 17) (dAt D201 10 rfl) rfl (hT.arr hOx0 20 rfl (by decide)).1 (hT.arr hOx0 20 rfl (by decide)).2 f1 (vz01 (Or.inr rfl)) ?_
    refine wtI hT (fun hT_2 => ?_)
    refine e_aload_n (pc' := 18) (dAt D201 11 rfl) rfl rfl ?_
    refine e_iconst (pc' := 19) (v := 0) (dAt D201 12 rfl) rfl (by decide) ?_
    replace h := h _ rfl
    refine e_putfield (pc' := 22) (dAt D201 13 rfl) rfl rfl hOx0 rfl rfl (fun e => by cases e) ?_
    refine wtF hT_2 hOx0 (by decide) (fun hT_4 => ?_)
    refine e_aload_n (pc' := 23) (dAt D201 14 rfl) rfl rfl ?_
    refine e_iload_n (pc' := 24) (dAt D201 15 rfl) rfl rfl ?_
    exact e_call2 h (dAt D201 16 rfl) (hi0 rfl) rfl G202 (by decide) rfl (Nat.le_of_ble_eq_true rfl) (kV hOx0 rfl rfl) rfl rfl
  · replace h := h.2 c
    exact e_return (dAt D201 5 rfl) rfl h
-- PlaceNetsModel.layFlows.(I)V, from 27
set_option maxRecDepth 20000 in
theorem bk201_27 {d b : Nat} {Q : Option Value → mMem → Prop} {m : mMem} {x0 : Nat} {x1 : Int32} {x2 : Option Value} {x3 : Option Value} {x4 : Option Value} {x5 : Option Value} (hT : mWT m) (hOx0 : m.1 x0 = some (.inr 8) ∧ x0 ≠ 0)
    (h : mEs d 201 b g201 (29, [some (.ref x0), some (.int x1), some (.int 0), x3, x4, x5], [], m) Q) :
    mEs d 201 b g201 (27, [some (.ref x0), some (.int x1), x2, x3, x4, x5], [], m) Q := by
  refine e_iconst (pc' := 28) (v := 0) (dAt D201 17 rfl) rfl (by decide) ?_
  refine e_istore_n (pc' := 29) (dAt D201 18 rfl) rfl (Nat.le_of_ble_eq_true rfl) rfl ?_
  exact h
-- PlaceNetsModel.layFlows.(I)V, from 29
set_option maxRecDepth 20000 in
theorem bk201_29 {d b : Nat} {Q : Option Value → mMem → Prop} {m : mMem} {x0 : Nat} {x1 : Int32} {x2 : Int32} {x3 : Option Value} {x4 : Option Value} {x5 : Option Value} (hT : mWT m) (hOx0 : m.1 x0 = some (.inr 8) ∧ x0 ≠ 0)
    (h : mEv d 200 [.ref x0, .int (1 - x1)] m (fun r m' => mEs d 201 b g201 (37, [some (.ref x0), some (.int x1), some (.int x2), x3, x4, x5], r.toList ++ [.int x2], m') Q)) :
    mEs d 201 b g201 (29, [some (.ref x0), some (.int x1), some (.int x2), x3, x4, x5], [], m) Q := by
  refine e_iload_n (pc' := 30) (dAt D201 19 rfl) rfl rfl ?_
  refine e_aload_n (pc' := 31) (dAt D201 20 rfl) rfl rfl ?_
  refine e_iconst (pc' := 32) (v := 1) (dAt D201 21 rfl) rfl (by decide) ?_
  refine e_iload_n (pc' := 33) (dAt D201 22 rfl) rfl rfl ?_
  refine e_isub (pc' := 34) (dAt D201 23 rfl) rfl ?_
  exact e_call2 h (dAt D201 24 rfl) (hi0 rfl) rfl G200 (by decide) rfl (Nat.le_of_ble_eq_true rfl) (kV hOx0 rfl rfl) rfl rfl
-- PlaceNetsModel.layFlows.(I)V, from 37
set_option maxRecDepth 20000 in
theorem bk201_37 {d b : Nat} {Q : Option Value → mMem → Prop} {m : mMem} {x0 : Nat} {x1 : Int32} {x2 : Int32} {x3 : Option Value} {x4 : Option Value} {x5 : Option Value} {y0 : Int32} {y1 : Int32} (hT : mWT m) (hOx0 : m.1 x0 = some (.inr 8) ∧ x0 ≠ 0)
    (h : (((y1 ≤ y0) → ((((iF m x0 42) = 0) → ((mIn x1 2 = true) ∧ (∀ (m_1 : mMem), m_1 = (mSetI m (64 * x0 + 22) (upd (m.2.2.1 (64 * x0 + 22)) x1.toNatClampNeg (iF m x0 39))) → mEs d 201 b g201 (84, [some (.ref x0), some (.int x1), some (.int 0), some (.int 1), x4, x5], [], m_1) Q))) ∧ (¬ ((iF m x0 42) = 0) → ((mIn x1 2 = true) ∧ (∀ (m_3 : mMem), m_3 = (mSetI m (64 * x0 + 22) (upd (m.2.2.1 (64 * x0 + 22)) x1.toNatClampNeg ((-2)))) → mEs d 201 b g201 (84, [some (.ref x0), some (.int x1), some (.int 0), some (.int 1), x4, x5], [], m_3) Q))))) ∧ (¬ (y1 ≤ y0) → (((¬ (iF m x0 42) = 0) → ((((iF m x0 42) = 0) → ((mIn x1 2 = true) ∧ (∀ (m_5 : mMem), m_5 = (mSetI m (64 * x0 + 22) (upd (m.2.2.1 (64 * x0 + 22)) x1.toNatClampNeg (iF m x0 39))) → mEs d 201 b g201 (84, [some (.ref x0), some (.int x1), some (.int 0), some (.int 1), x4, x5], [], m_5) Q))) ∧ (¬ ((iF m x0 42) = 0) → ((mIn x1 2 = true) ∧ (∀ (m_7 : mMem), m_7 = (mSetI m (64 * x0 + 22) (upd (m.2.2.1 (64 * x0 + 22)) x1.toNatClampNeg ((-2)))) → mEs d 201 b g201 (84, [some (.ref x0), some (.int x1), some (.int 0), some (.int 1), x4, x5], [], m_7) Q))))) ∧ (¬ (¬ (iF m x0 42) = 0) → (mEv d 203 [.ref x0, .int x2] m (fun r m' => mEs d 201 b g201 (52, [some (.ref x0), some (.int x1), some (.int x2), x3, x4, x5], r.toList ++ [], m') Q))))))) :
    mEs d 201 b g201 (37, [some (.ref x0), some (.int x1), some (.int x2), x3, x4, x5], [.int y1, .int y0], m) Q := by
  refine e_icmp_ge (t := 58) (pc' := 40) (dAt D201 25 rfl) ⟨by decide, by decide⟩ rfl (fun c => ?_) (fun c => ?_)
  · replace h := h.1 c
    refine e_aload_n (pc' := 59) (dAt D201 34 rfl) rfl rfl ?_
    refine e_getfield (pc' := 62) (dAt D201 35 rfl) rfl rfl hOx0 (hT.own hOx0 21 rfl) ?_
    refine e_iload_n (pc' := 63) (dAt D201 36 rfl) rfl rfl ?_
    refine e_aload_n (pc' := 64) (dAt D201 37 rfl) rfl rfl ?_
    refine e_getfield (pc' := 67) (dAt D201 38 rfl) rfl rfl hOx0 (hT.int hOx0 42 (by decide)) ?_
    refine e_if_eq (t := 75) (pc' := 70) (dAt D201 39 rfl) ⟨by decide, by decide⟩ rfl (fun c => ?_) (fun c => ?_)
    · replace h := h.1 c
      refine e_aload_n (pc' := 76) (dAt D201 42 rfl) rfl rfl ?_
      refine e_getfield (pc' := 79) (dAt D201 43 rfl) rfl rfl hOx0 (hT.int hOx0 39 (by decide)) ?_
      obtain ⟨f1, h⟩ := h
      replace h := h _ rfl
      refine e_iastore (pc' := 80) (dAt D201 44 rfl) rfl (hT.arr hOx0 21 rfl (by decide)).1 (hT.arr hOx0 21 rfl (by decide)).2 f1 (nar_i _) ?_
      refine wtI hT (fun hT_2 => ?_)
      refine e_iconst (pc' := 81) (v := 0) (dAt D201 45 rfl) rfl (by decide) ?_
      refine e_istore_n (pc' := 82) (dAt D201 46 rfl) rfl (Nat.le_of_ble_eq_true rfl) rfl ?_
      refine e_iconst (pc' := 83) (v := 1) (dAt D201 47 rfl) rfl (by decide) ?_
      refine e_istore_n (pc' := 84) (dAt D201 48 rfl) rfl (Nat.le_of_ble_eq_true rfl) rfl ?_
      exact h
    · replace h := h.2 c
      refine e_bipush (pc' := 72) (v := (-2)) (dAt D201 40 rfl) rfl (by decide) ?_
      refine e_goto (t := 79) (dAt D201 41 rfl) ⟨by decide, by decide⟩ ?_
      obtain ⟨f1, h⟩ := h
      replace h := h _ rfl
      refine e_iastore (pc' := 80) (dAt D201 44 rfl) rfl (hT.arr hOx0 21 rfl (by decide)).1 (hT.arr hOx0 21 rfl (by decide)).2 f1 (nar_i _) ?_
      refine wtI hT (fun hT_4 => ?_)
      refine e_iconst (pc' := 81) (v := 0) (dAt D201 45 rfl) rfl (by decide) ?_
      refine e_istore_n (pc' := 82) (dAt D201 46 rfl) rfl (Nat.le_of_ble_eq_true rfl) rfl ?_
      refine e_iconst (pc' := 83) (v := 1) (dAt D201 47 rfl) rfl (by decide) ?_
      refine e_istore_n (pc' := 84) (dAt D201 48 rfl) rfl (Nat.le_of_ble_eq_true rfl) rfl ?_
      exact h
  · replace h := h.2 c
    refine e_aload_n (pc' := 41) (dAt D201 26 rfl) rfl rfl ?_
    refine e_getfield (pc' := 44) (dAt D201 27 rfl) rfl rfl hOx0 (hT.int hOx0 42 (by decide)) ?_
    refine e_if_ne (t := 58) (pc' := 47) (dAt D201 28 rfl) ⟨by decide, by decide⟩ rfl (fun c => ?_) (fun c => ?_)
    · replace h := h.1 c
      refine e_aload_n (pc' := 59) (dAt D201 34 rfl) rfl rfl ?_
      refine e_getfield (pc' := 62) (dAt D201 35 rfl) rfl rfl hOx0 (hT.own hOx0 21 rfl) ?_
      refine e_iload_n (pc' := 63) (dAt D201 36 rfl) rfl rfl ?_
      refine e_aload_n (pc' := 64) (dAt D201 37 rfl) rfl rfl ?_
      refine e_getfield (pc' := 67) (dAt D201 38 rfl) rfl rfl hOx0 (hT.int hOx0 42 (by decide)) ?_
      refine e_if_eq (t := 75) (pc' := 70) (dAt D201 39 rfl) ⟨by decide, by decide⟩ rfl (fun c => ?_) (fun c => ?_)
      · replace h := h.1 c
        refine e_aload_n (pc' := 76) (dAt D201 42 rfl) rfl rfl ?_
        refine e_getfield (pc' := 79) (dAt D201 43 rfl) rfl rfl hOx0 (hT.int hOx0 39 (by decide)) ?_
        obtain ⟨f1, h⟩ := h
        replace h := h _ rfl
        refine e_iastore (pc' := 80) (dAt D201 44 rfl) rfl (hT.arr hOx0 21 rfl (by decide)).1 (hT.arr hOx0 21 rfl (by decide)).2 f1 (nar_i _) ?_
        refine wtI hT (fun hT_6 => ?_)
        refine e_iconst (pc' := 81) (v := 0) (dAt D201 45 rfl) rfl (by decide) ?_
        refine e_istore_n (pc' := 82) (dAt D201 46 rfl) rfl (Nat.le_of_ble_eq_true rfl) rfl ?_
        refine e_iconst (pc' := 83) (v := 1) (dAt D201 47 rfl) rfl (by decide) ?_
        refine e_istore_n (pc' := 84) (dAt D201 48 rfl) rfl (Nat.le_of_ble_eq_true rfl) rfl ?_
        exact h
      · replace h := h.2 c
        refine e_bipush (pc' := 72) (v := (-2)) (dAt D201 40 rfl) rfl (by decide) ?_
        refine e_goto (t := 79) (dAt D201 41 rfl) ⟨by decide, by decide⟩ ?_
        obtain ⟨f1, h⟩ := h
        replace h := h _ rfl
        refine e_iastore (pc' := 80) (dAt D201 44 rfl) rfl (hT.arr hOx0 21 rfl (by decide)).1 (hT.arr hOx0 21 rfl (by decide)).2 f1 (nar_i _) ?_
        refine wtI hT (fun hT_8 => ?_)
        refine e_iconst (pc' := 81) (v := 0) (dAt D201 45 rfl) rfl (by decide) ?_
        refine e_istore_n (pc' := 82) (dAt D201 46 rfl) rfl (Nat.le_of_ble_eq_true rfl) rfl ?_
        refine e_iconst (pc' := 83) (v := 1) (dAt D201 47 rfl) rfl (by decide) ?_
        refine e_istore_n (pc' := 84) (dAt D201 48 rfl) rfl (Nat.le_of_ble_eq_true rfl) rfl ?_
        exact h
    · replace h := h.2 c
      refine e_aload_n (pc' := 48) (dAt D201 29 rfl) rfl rfl ?_
      refine e_iload_n (pc' := 49) (dAt D201 30 rfl) rfl rfl ?_
      exact e_call2 h (dAt D201 31 rfl) (hi0 rfl) rfl G203 (by decide) rfl (Nat.le_of_ble_eq_true rfl) (kV hOx0 rfl rfl) rfl rfl
-- PlaceNetsModel.layFlows.(I)V, from 52
set_option maxRecDepth 20000 in
theorem bk201_52 {d b : Nat} {Q : Option Value → mMem → Prop} {m : mMem} {x0 : Nat} {x1 : Int32} {x2 : Int32} {x3 : Option Value} {x4 : Option Value} {x5 : Option Value} (hT : mWT m) (hOx0 : m.1 x0 = some (.inr 8) ∧ x0 ≠ 0)
    (h : ∀ (v_1 : Int32), v_1 = (x2 + 1) → mEs d 201 b g201 (29, [some (.ref x0), some (.int x1), some (.int v_1), x3, x4, x5], [], m) Q) :
    mEs d 201 b g201 (52, [some (.ref x0), some (.int x1), some (.int x2), x3, x4, x5], [], m) Q := by
  replace h := h _ rfl
  refine e_iinc (pc' := 55) (dAt D201 32 rfl) rfl rfl (Nat.le_of_ble_eq_true rfl) (congrArg (_ + ·) (show Int32.ofInt (1) = (1 : Int32) by decide)) rfl ?_
  refine e_goto (t := 29) (dAt D201 33 rfl) ⟨by decide, by decide⟩ ?_
  exact h
