-- PlaceNetsModel.isCircuit.()Z, from 37
set_option maxRecDepth 20000 in
theorem bk222_37 {d b : Nat} {Q : Option Value → mMem → Prop} {m : mMem} {x0 : Nat} {x1 : Int32} {x2 : Int32} {x3 : Int32} {x4 : Int32} {x5 : Int32} {y0 : Int32} {y1 : Int32} (hT : mWT m) (hOx0 : m.1 x0 = some (.inr 8) ∧ x0 ≠ 0)
    (h : (((y1 ≤ 0) → (∀ (v_1 : Int32), v_1 = (y0 + 0) → mEv d 163 [.ref x0, .int x5, .int x2] m (fun r m' => mEs d 222 b g222 (56, [some (.ref x0), some (.int x1), some (.int x2), some (.int v_1), some (.int x4), some (.int x5)], r.toList ++ [.int x4], m') Q))) ∧ (¬ (y1 ≤ 0) → (∀ (v_2 : Int32), v_2 = (y0 + 1) → mEv d 163 [.ref x0, .int x5, .int x2] m (fun r m' => mEs d 222 b g222 (56, [some (.ref x0), some (.int x1), some (.int x2), some (.int v_2), some (.int x4), some (.int x5)], r.toList ++ [.int x4], m') Q))))) :
    mEs d 222 b g222 (37, [some (.ref x0), some (.int x1), some (.int x2), some (.int x3), some (.int x4), some (.int x5)], [.int y1, .int y0], m) Q := by
  refine e_if_le (t := 44) (pc' := 40) (dAt D222 23 rfl) ⟨by decide, by decide⟩ rfl (fun c => ?_) (fun c => ?_)
  · replace h := h.1 c
    refine e_iconst (pc' := 45) (v := 0) (dAt D222 26 rfl) rfl (by decide) ?_
    refine e_iadd (pc' := 46) (dAt D222 27 rfl) rfl ?_
    replace h := h _ rfl
    refine e_istore_n (pc' := 47) (dAt D222 28 rfl) rfl (Nat.le_of_ble_eq_true rfl) rfl ?_
    refine e_iload (pc' := 49) (dAt D222 29 rfl) rfl rfl ?_
    refine e_aload_n (pc' := 50) (dAt D222 30 rfl) rfl rfl ?_
    refine e_iload (pc' := 52) (dAt D222 31 rfl) rfl rfl ?_
    refine e_iload_n (pc' := 53) (dAt D222 32 rfl) rfl rfl ?_
    exact e_call2 h (dAt D222 33 rfl) (hi0 rfl) rfl G163 (by decide) rfl (Nat.le_of_ble_eq_true rfl) (kV hOx0 rfl rfl) rfl rfl
  · replace h := h.2 c
    refine e_iconst (pc' := 41) (v := 1) (dAt D222 24 rfl) rfl (by decide) ?_
    refine e_goto (t := 45) (dAt D222 25 rfl) ⟨by decide, by decide⟩ ?_
    refine e_iadd (pc' := 46) (dAt D222 27 rfl) rfl ?_
    replace h := h _ rfl
    refine e_istore_n (pc' := 47) (dAt D222 28 rfl) rfl (Nat.le_of_ble_eq_true rfl) rfl ?_
    refine e_iload (pc' := 49) (dAt D222 29 rfl) rfl rfl ?_
    refine e_aload_n (pc' := 50) (dAt D222 30 rfl) rfl rfl ?_
    refine e_iload (pc' := 52) (dAt D222 31 rfl) rfl rfl ?_
    refine e_iload_n (pc' := 53) (dAt D222 32 rfl) rfl rfl ?_
    exact e_call2 h (dAt D222 33 rfl) (hi0 rfl) rfl G163 (by decide) rfl (Nat.le_of_ble_eq_true rfl) (kV hOx0 rfl rfl) rfl rfl
-- PlaceNetsModel.isCircuit.()Z, from 56
set_option maxRecDepth 20000 in
theorem bk222_56 {d b : Nat} {Q : Option Value → mMem → Prop} {m : mMem} {x0 : Nat} {x1 : Int32} {x2 : Int32} {x3 : Int32} {x4 : Int32} {x5 : Int32} {y0 : Int32} {y1 : Int32} (hT : mWT m) (hOx0 : m.1 x0 = some (.inr 8) ∧ x0 ≠ 0)
    (h : (((y1 ≤ 0) → (∀ (v_1 : Int32), v_1 = (y0 + 0) → ∀ (v_2 : Int32), v_2 = (x5 + 1) → mEs d 222 b g222 (20, [some (.ref x0), some (.int x1), some (.int x2), some (.int x3), some (.int v_1), some (.int v_2)], [], m) Q)) ∧ (¬ (y1 ≤ 0) → (∀ (v_3 : Int32), v_3 = (y0 + 1) → ∀ (v_4 : Int32), v_4 = (x5 + 1) → mEs d 222 b g222 (20, [some (.ref x0), some (.int x1), some (.int x2), some (.int x3), some (.int v_3), some (.int v_4)], [], m) Q)))) :
    mEs d 222 b g222 (56, [some (.ref x0), some (.int x1), some (.int x2), some (.int x3), some (.int x4), some (.int x5)], [.int y1, .int y0], m) Q := by
  refine e_if_le (t := 63) (pc' := 59) (dAt D222 34 rfl) ⟨by decide, by decide⟩ rfl (fun c => ?_) (fun c => ?_)
  · replace h := h.1 c
    refine e_iconst (pc' := 64) (v := 0) (dAt D222 37 rfl) rfl (by decide) ?_
    refine e_iadd (pc' := 65) (dAt D222 38 rfl) rfl ?_
    replace h := h _ rfl
    refine e_istore (pc' := 67) (dAt D222 39 rfl) rfl (Nat.le_of_ble_eq_true rfl) rfl ?_
    replace h := h _ rfl
    refine e_iinc (pc' := 70) (dAt D222 40 rfl) rfl rfl (Nat.le_of_ble_eq_true rfl) (congrArg (_ + ·) (show Int32.ofInt (1) = (1 : Int32) by decide)) rfl ?_
    refine e_goto (t := 20) (dAt D222 41 rfl) ⟨by decide, by decide⟩ ?_
    exact h
  · replace h := h.2 c
    refine e_iconst (pc' := 60) (v := 1) (dAt D222 35 rfl) rfl (by decide) ?_
    refine e_goto (t := 64) (dAt D222 36 rfl) ⟨by decide, by decide⟩ ?_
    refine e_iadd (pc' := 65) (dAt D222 38 rfl) rfl ?_
    replace h := h _ rfl
    refine e_istore (pc' := 67) (dAt D222 39 rfl) rfl (Nat.le_of_ble_eq_true rfl) rfl ?_
    replace h := h _ rfl
    refine e_iinc (pc' := 70) (dAt D222 40 rfl) rfl rfl (Nat.le_of_ble_eq_true rfl) (congrArg (_ + ·) (show Int32.ofInt (1) = (1 : Int32) by decide)) rfl ?_
    refine e_goto (t := 20) (dAt D222 41 rfl) ⟨by decide, by decide⟩ ?_
    exact h
-- PlaceNetsModel.event.(II)I, from 0
set_option maxRecDepth 20000 in
theorem bk223_0 {d b : Nat} {Q : Option Value → mMem → Prop} {m : mMem} {x0 : Nat} {x1 : Int32} {x2 : Int32} (hT : mWT m) (hOx0 : m.1 x0 = some (.inr 8) ∧ x0 ≠ 0)
    (h : ∀ (m_1 : mMem), m_1 = (mSetF m x0 0 (.int 0)) → ((((iF m_1 x0 18) = 0) → (Q (some (.int ((-1)))) m_1)) ∧ (¬ ((iF m_1 x0 18) = 0) → (((x1 < ((-1))) → (Q (some (.int ((-1)))) m_1)) ∧ (¬ (x1 < ((-1))) → (((x2 < 0) → (Q (some (.int ((-1)))) m_1)) ∧ (¬ (x2 < 0) → (((¬ x1 = ((-1))) → (mEv d 224 [.ref x0] m_1 (fun r m' => mEs d 223 b g223 (36, [some (.ref x0), some (.int x1), some (.int x2)], r.toList ++ [], m') Q))) ∧ (¬ (¬ x1 = ((-1))) → (((x2 = 0) → (mEv d 224 [.ref x0] m_1 (fun r m' => mEs d 223 b g223 (36, [some (.ref x0), some (.int x1), some (.int x2)], r.toList ++ [], m') Q))) ∧ (¬ (x2 = 0) → (Q (some (.int ((-1)))) m_1)))))))))))) :
    mEs d 223 b g223 (0, [some (.ref x0), some (.int x1), some (.int x2)], [], m) Q := by
  refine e_aload_n (pc' := 1) (dAt D223 0 rfl) rfl rfl ?_
  refine e_iconst (pc' := 2) (v := 0) (dAt D223 1 rfl) rfl (by decide) ?_
  replace h := h _ rfl
  refine e_putfield (pc' := 5) (dAt D223 2 rfl) rfl rfl hOx0 rfl rfl (fun e => by cases e) ?_
  refine wtF hT hOx0 (by decide) (fun hT_2 => ?_)
  refine e_aload_n (pc' := 6) (dAt D223 3 rfl) rfl rfl ?_
  refine e_getfield (pc' := 9) (dAt D223 4 rfl) rfl rfl hOx0 (hT_2.int hOx0 18 (by decide)) ?_
  refine e_if_eq (t := 30) (pc' := 12) (dAt D223 5 rfl) ⟨by decide, by decide⟩ rfl (fun c => ?_) (fun c => ?_)
  · replace h := h.1 c
    refine e_iconst (pc' := 31) (v := (-1)) (dAt D223 16 rfl) rfl (by decide) ?_
    exact e_ireturn (dAt D223 17 rfl) rfl ⟨rfl, fun e => by cases e⟩ h
  · replace h := h.2 c
    refine e_iload_n (pc' := 13) (dAt D223 6 rfl) rfl rfl ?_
    refine e_iconst (pc' := 14) (v := (-1)) (dAt D223 7 rfl) rfl (by decide) ?_
    refine e_icmp_lt (t := 30) (pc' := 17) (dAt D223 8 rfl) ⟨by decide, by decide⟩ rfl (fun c => ?_) (fun c => ?_)
    · replace h := h.1 c
      refine e_iconst (pc' := 31) (v := (-1)) (dAt D223 16 rfl) rfl (by decide) ?_
      exact e_ireturn (dAt D223 17 rfl) rfl ⟨rfl, fun e => by cases e⟩ h
    · replace h := h.2 c
      refine e_iload_n (pc' := 18) (dAt D223 9 rfl) rfl rfl ?_
      refine e_if_lt (t := 30) (pc' := 21) (dAt D223 10 rfl) ⟨by decide, by decide⟩ rfl (fun c => ?_) (fun c => ?_)
      · replace h := h.1 c
        refine e_iconst (pc' := 31) (v := (-1)) (dAt D223 16 rfl) rfl (by decide) ?_
        exact e_ireturn (dAt D223 17 rfl) rfl ⟨rfl, fun e => by cases e⟩ h
      · replace h := h.2 c
        refine e_iload_n (pc' := 22) (dAt D223 11 rfl) rfl rfl ?_
        refine e_iconst (pc' := 23) (v := (-1)) (dAt D223 12 rfl) rfl (by decide) ?_
        refine e_icmp_ne (t := 32) (pc' := 26) (dAt D223 13 rfl) ⟨by decide, by decide⟩ rfl (fun c => ?_) (fun c => ?_)
        · replace h := h.1 c
          refine e_aload_n (pc' := 33) (dAt D223 18 rfl) rfl rfl ?_
          exact e_call2 h (dAt D223 19 rfl) (hi0 rfl) rfl G224 (by decide) rfl (Nat.le_of_ble_eq_true rfl) (kV hOx0 rfl rfl) rfl rfl
        · replace h := h.2 c
          refine e_iload_n (pc' := 27) (dAt D223 14 rfl) rfl rfl ?_
          refine e_if_eq (t := 32) (pc' := 30) (dAt D223 15 rfl) ⟨by decide, by decide⟩ rfl (fun c => ?_) (fun c => ?_)
          · replace h := h.1 c
            refine e_aload_n (pc' := 33) (dAt D223 18 rfl) rfl rfl ?_
            exact e_call2 h (dAt D223 19 rfl) (hi0 rfl) rfl G224 (by decide) rfl (Nat.le_of_ble_eq_true rfl) (kV hOx0 rfl rfl) rfl rfl
          · replace h := h.2 c
            refine e_iconst (pc' := 31) (v := (-1)) (dAt D223 16 rfl) rfl (by decide) ?_
            exact e_ireturn (dAt D223 17 rfl) rfl ⟨rfl, fun e => by cases e⟩ h
-- PlaceNetsModel.event.(II)I, from 36
set_option maxRecDepth 20000 in
theorem bk223_36 {d b : Nat} {Q : Option Value → mMem → Prop} {m : mMem} {x0 : Nat} {x1 : Int32} {x2 : Int32} (hT : mWT m) (hOx0 : m.1 x0 = some (.inr 8) ∧ x0 ≠ 0)
    (h : ((((iF m x0 46) = 0) → (((x1 = ((-1))) → (((¬ x1 = ((-1))) → (Q (some (.int ((-1)))) m)) ∧ (¬ (¬ x1 = ((-1))) → (Q (some (.int (iF m x0 47))) m)))) ∧ (¬ (x1 = ((-1))) → (((x1 < (iF m x0 47)) → ((x2 = 0 → ((mIn x1 31 = true) ∧ (Q (some (.int (m.2.2.1 (64 * x0 + 28) x1.toNatClampNeg))) m))) ∧ (¬ x2 = 0 → ((x2 = 1 → ((mIn x1 31 = true) ∧ (mEv d 171 [.int (m.2.2.1 (64 * x0 + 31) x1.toNatClampNeg)] m (fun r m' => mEs d 223 b g223 (116, [some (.ref x0), some (.int x1), some (.int x2)], r.toList ++ [], m') Q)))) ∧ (¬ x2 = 1 → ((x2 = 2 → ((mIn x1 31 = true) ∧ ((((m.2.2.1 (64 * x0 + 32) x1.toNatClampNeg) = 0) → (Q (some (.int 0)) m)) ∧ (¬ ((m.2.2.1 (64 * x0 + 32) x1.toNatClampNeg) = 0) → (Q (some (.int 1)) m))))) ∧ (¬ x2 = 2 → ((mIn x1 31 = true) ∧ ((((m.2.2.1 (64 * x0 + 30) x1.toNatClampNeg) ≤ (x2 - 3)) → (Q (some (.int ((-3)))) m)) ∧ (¬ ((m.2.2.1 (64 * x0 + 30) x1.toNatClampNeg) ≤ (x2 - 3)) → ((mIn (((3 * x1) + x2) - 3) 93 = true) ∧ (Q (some (.int (m.2.2.1 (64 * x0 + 29) (((3 * x1) + x2) - 3).toNatClampNeg))) m)))))))))))) ∧ (¬ (x1 < (iF m x0 47)) → (((¬ x1 = ((-1))) → (Q (some (.int ((-1)))) m)) ∧ (¬ (¬ x1 = ((-1))) → (Q (some (.int (iF m x0 47))) m)))))))) ∧ (¬ ((iF m x0 46) = 0) → (Q (some (.int ((-2)))) m)))) :
    mEs d 223 b g223 (36, [some (.ref x0), some (.int x1), some (.int x2)], [], m) Q := by
  refine e_aload_n (pc' := 37) (dAt D223 20 rfl) rfl rfl ?_
  refine e_getfield (pc' := 40) (dAt D223 21 rfl) rfl rfl hOx0 (hT.int hOx0 46 (by decide)) ?_
  refine e_if_eq (t := 46) (pc' := 43) (dAt D223 22 rfl) ⟨by decide, by decide⟩ rfl (fun c => ?_) (fun c => ?_)
  · replace h := h.1 c
    refine e_iload_n (pc' := 47) (dAt D223 25 rfl) rfl rfl ?_
    refine e_iconst (pc' := 48) (v := (-1)) (dAt D223 26 rfl) rfl (by decide) ?_
    refine e_icmp_eq (t := 59) (pc' := 51) (dAt D223 27 rfl) ⟨by decide, by decide⟩ rfl (fun c => ?_) (fun c => ?_)
    · replace h := h.1 c
      refine e_iload_n (pc' := 60) (dAt D223 32 rfl) rfl rfl ?_
      refine e_iconst (pc' := 61) (v := (-1)) (dAt D223 33 rfl) rfl (by decide) ?_
      refine e_icmp_ne (t := 71) (pc' := 64) (dAt D223 34 rfl) ⟨by decide, by decide⟩ rfl (fun c => ?_) (fun c => ?_)
      · replace h := h.1 c
        refine e_iconst (pc' := 72) (v := (-1)) (dAt D223 38 rfl) rfl (by decide) ?_
        exact e_ireturn (dAt D223 39 rfl) rfl ⟨rfl, fun e => by cases e⟩ h
      · replace h := h.2 c
        refine e_aload_n (pc' := 65) (dAt D223 35 rfl) rfl rfl ?_
        refine e_getfield (pc' := 68) (dAt D223 36 rfl) rfl rfl hOx0 (hT.int hOx0 47 (by decide)) ?_
        refine e_goto (t := 72) (dAt D223 37 rfl) ⟨by decide, by decide⟩ ?_
        exact e_ireturn (dAt D223 39 rfl) rfl ⟨rfl, fun e => by cases e⟩ h
    · replace h := h.2 c
      refine e_iload_n (pc' := 52) (dAt D223 28 rfl) rfl rfl ?_
      refine e_aload_n (pc' := 53) (dAt D223 29 rfl) rfl rfl ?_
      refine e_getfield (pc' := 56) (dAt D223 30 rfl) rfl rfl hOx0 (hT.int hOx0 47 (by decide)) ?_
      refine e_icmp_lt (t := 73) (pc' := 59) (dAt D223 31 rfl) ⟨by decide, by decide⟩ rfl (fun c => ?_) (fun c => ?_)
      · replace h := h.1 c
        refine e_iload_n (pc' := 74) (dAt D223 40 rfl) rfl rfl ?_
        refine vc_if h (fun c0 h => ?_) (fun c0 h => ?_)
        · refine e_tableswitch (off := 26) (t := 100) (dAt D223 41 rfl) (by rw [c0]; rfl) ⟨by decide, by decide⟩ ?_
          refine e_aload_n (pc' := 101) (dAt D223 42 rfl) rfl rfl ?_
          refine e_getfield (pc' := 104) (dAt D223 43 rfl) rfl rfl hOx0 (hT.own hOx0 27 rfl) ?_
          refine e_iload_n (pc' := 105) (dAt D223 44 rfl) rfl rfl ?_
          obtain ⟨f1, h⟩ := h
          refine e_iaload (pc' := 106) (dAt D223 45 rfl) rfl (hT.arr hOx0 27 rfl (by decide)).1 (Or.inl (hT.arr hOx0 27 rfl (by decide)).2) f1 rfl ?_
          exact e_ireturn (dAt D223 46 rfl) rfl ⟨rfl, fun e => by cases e⟩ h
        · skip
          refine vc_if h (fun c1 h => ?_) (fun c1 h => ?_)
          · refine e_tableswitch (off := 33) (t := 107) (dAt D223 41 rfl) (by rw [c1]; rfl) ⟨by decide, by decide⟩ ?_
            refine e_aload_n (pc' := 108) (dAt D223 47 rfl) rfl rfl ?_
            refine e_getfield (pc' := 111) (dAt D223 48 rfl) rfl rfl hOx0 (hT.own hOx0 30 rfl) ?_
            refine e_iload_n (pc' := 112) (dAt D223 49 rfl) rfl rfl ?_
            obtain ⟨f1, h⟩ := h
            refine e_iaload (pc' := 113) (dAt D223 50 rfl) rfl (hT.arr hOx0 30 rfl (by decide)).1 (Or.inl (hT.arr hOx0 30 rfl (by decide)).2) f1 rfl ?_
            exact e_call2 h (dAt D223 51 rfl) (hi2 rfl) rfl G171 (by decide) rfl (Nat.le_of_ble_eq_true rfl) rfl rfl rfl
          · skip
            refine vc_if h (fun c2 h => ?_) (fun c2 h => ?_)
            · refine e_tableswitch (off := 43) (t := 117) (dAt D223 41 rfl) (by rw [c2]; rfl) ⟨by decide, by decide⟩ ?_
              refine e_aload_n (pc' := 118) (dAt D223 53 rfl) rfl rfl ?_
              refine e_getfield (pc' := 121) (dAt D223 54 rfl) rfl rfl hOx0 (hT.own hOx0 31 rfl) ?_
              refine e_iload_n (pc' := 122) (dAt D223 55 rfl) rfl rfl ?_
              obtain ⟨f1, h⟩ := h
              refine e_zaload (pc' := 123) (dAt D223 56 rfl) rfl (hT.arr hOx0 31 rfl (by decide)).1 (Or.inl (hT.arr hOx0 31 rfl (by decide)).2) f1 rfl ?_
              refine e_if_eq (t := 130) (pc' := 126) (dAt D223 57 rfl) ⟨by decide, by decide⟩ rfl (fun c => ?_) (fun c => ?_)
              · replace h := h.1 c
                refine e_iconst (pc' := 131) (v := 0) (dAt D223 60 rfl) rfl (by decide) ?_
                exact e_ireturn (dAt D223 61 rfl) rfl ⟨rfl, fun e => by cases e⟩ h
              · replace h := h.2 c
                refine e_iconst (pc' := 127) (v := 1) (dAt D223 58 rfl) rfl (by decide) ?_
                refine e_goto (t := 131) (dAt D223 59 rfl) ⟨by decide, by decide⟩ ?_
                exact e_ireturn (dAt D223 61 rfl) rfl ⟨rfl, fun e => by cases e⟩ h
            · skip
              refine e_tableswitch (off := 58) (t := 132) (dAt D223 41 rfl) (if_pos (sw_out (fun k h1 h2 e => by
                have hk : k = 0 ∨ k = 1 ∨ k = 2 := by omega
                rcases hk with rfl | rfl | rfl
                · exact c0 (Int32.toInt_inj.mp (e.trans (by decide)))
                · exact c1 (Int32.toInt_inj.mp (e.trans (by decide)))
                · exact c2 (Int32.toInt_inj.mp (e.trans (by decide)))
                ))) ⟨by decide, by decide⟩ ?_
              refine e_iload_n (pc' := 133) (dAt D223 62 rfl) rfl rfl ?_
              refine e_iconst (pc' := 134) (v := 3) (dAt D223 63 rfl) rfl (by decide) ?_
              refine e_isub (pc' := 135) (dAt D223 64 rfl) rfl ?_
              refine e_aload_n (pc' := 136) (dAt D223 65 rfl) rfl rfl ?_
              refine e_getfield (pc' := 139) (dAt D223 66 rfl) rfl rfl hOx0 (hT.own hOx0 29 rfl) ?_
              refine e_iload_n (pc' := 140) (dAt D223 67 rfl) rfl rfl ?_
              obtain ⟨f1, h⟩ := h
              refine e_iaload (pc' := 141) (dAt D223 68 rfl) rfl (hT.arr hOx0 29 rfl (by decide)).1 (Or.inl (hT.arr hOx0 29 rfl (by decide)).2) f1 rfl ?_
              refine e_icmp_ge (t := 159) (pc' := 144) (dAt D223 69 rfl) ⟨by decide, by decide⟩ rfl (fun c => ?_) (fun c => ?_)
              · replace h := h.1 c
                refine e_bipush (pc' := 161) (v := (-3)) (dAt D223 81 rfl) rfl (by decide) ?_
                exact e_ireturn (dAt D223 82 rfl) rfl ⟨rfl, fun e => by cases e⟩ h
              · replace h := h.2 c
                refine e_aload_n (pc' := 145) (dAt D223 70 rfl) rfl rfl ?_
                refine e_getfield (pc' := 148) (dAt D223 71 rfl) rfl rfl hOx0 (hT.own hOx0 28 rfl) ?_
                refine e_iconst (pc' := 149) (v := 3) (dAt D223 72 rfl) rfl (by decide) ?_
                refine e_iload_n (pc' := 150) (dAt D223 73 rfl) rfl rfl ?_
                refine e_imul (pc' := 151) (dAt D223 74 rfl) rfl ?_
                refine e_iload_n (pc' := 152) (dAt D223 75 rfl) rfl rfl ?_
                refine e_iadd (pc' := 153) (dAt D223 76 rfl) rfl ?_
                refine e_iconst (pc' := 154) (v := 3) (dAt D223 77 rfl) rfl (by decide) ?_
                refine e_isub (pc' := 155) (dAt D223 78 rfl) rfl ?_
                obtain ⟨f1, h⟩ := h
                refine e_iaload (pc' := 156) (dAt D223 79 rfl) rfl (hT.arr hOx0 28 rfl (by decide)).1 (Or.inl (hT.arr hOx0 28 rfl (by decide)).2) f1 rfl ?_
                refine e_goto (t := 161) (dAt D223 80 rfl) ⟨by decide, by decide⟩ ?_
                exact e_ireturn (dAt D223 82 rfl) rfl ⟨rfl, fun e => by cases e⟩ h
      · replace h := h.2 c
        refine e_iload_n (pc' := 60) (dAt D223 32 rfl) rfl rfl ?_
        refine e_iconst (pc' := 61) (v := (-1)) (dAt D223 33 rfl) rfl (by decide) ?_
        refine e_icmp_ne (t := 71) (pc' := 64) (dAt D223 34 rfl) ⟨by decide, by decide⟩ rfl (fun c => ?_) (fun c => ?_)
        · replace h := h.1 c
          refine e_iconst (pc' := 72) (v := (-1)) (dAt D223 38 rfl) rfl (by decide) ?_
          exact e_ireturn (dAt D223 39 rfl) rfl ⟨rfl, fun e => by cases e⟩ h
        · replace h := h.2 c
          refine e_aload_n (pc' := 65) (dAt D223 35 rfl) rfl rfl ?_
          refine e_getfield (pc' := 68) (dAt D223 36 rfl) rfl rfl hOx0 (hT.int hOx0 47 (by decide)) ?_
          refine e_goto (t := 72) (dAt D223 37 rfl) ⟨by decide, by decide⟩ ?_
          exact e_ireturn (dAt D223 39 rfl) rfl ⟨rfl, fun e => by cases e⟩ h
  · replace h := h.2 c
    refine e_bipush (pc' := 45) (v := (-2)) (dAt D223 23 rfl) rfl (by decide) ?_
    exact e_ireturn (dAt D223 24 rfl) rfl ⟨rfl, fun e => by cases e⟩ h
-- PlaceNetsModel.event.(II)I, from 116
set_option maxRecDepth 20000 in
theorem bk223_116 {d b : Nat} {Q : Option Value → mMem → Prop} {m : mMem} {x0 : Nat} {x1 : Int32} {x2 : Int32} {y0 : Int32} (hT : mWT m) (hOx0 : m.1 x0 = some (.inr 8) ∧ x0 ≠ 0)
    (h : Q (some (.int y0)) m) :
    mEs d 223 b g223 (116, [some (.ref x0), some (.int x1), some (.int x2)], [.int y0], m) Q := by
  exact e_ireturn (dAt D223 52 rfl) rfl ⟨rfl, fun e => by cases e⟩ h
-- PlaceNetsModel.unfold.()V, from 0
set_option maxRecDepth 20000 in
theorem bk224_0 {d b : Nat} {Q : Option Value → mMem → Prop} {m : mMem} {x0 : Nat} {x1 : Option Value} {x2 : Option Value} (hT : mWT m) (hOx0 : m.1 x0 = some (.inr 8) ∧ x0 ≠ 0)
    (h : ((((iF m x0 45) = 0) → (∀ (m_1 : mMem), m_1 = (mSetF m x0 45 (.int 1)) → ∀ (m_3 : mMem), m_3 = (mSetF m_1 x0 47 (.int 0)) → ∀ (m_5 : mMem), m_5 = (mSetF m_3 x0 55 (.int 0)) → mEv d 176 [.ref x0] m_5 (fun r m' => mEs d 224 b g224 (28, [some (.ref x0), x1, x2], r.toList ++ [.ref x0], m') Q))) ∧ (¬ ((iF m x0 45) = 0) → (Q none m)))) :
    mEs d 224 b g224 (0, [some (.ref x0), x1, x2], [], m) Q := by
  refine e_aload_n (pc' := 1) (dAt D224 0 rfl) rfl rfl ?_
  refine e_getfield (pc' := 4) (dAt D224 1 rfl) rfl rfl hOx0 (hT.int hOx0 45 (by decide)) ?_
  refine e_if_eq (t := 8) (pc' := 7) (dAt D224 2 rfl) ⟨by decide, by decide⟩ rfl (fun c => ?_) (fun c => ?_)
  · replace h := h.1 c
    refine e_aload_n (pc' := 9) (dAt D224 4 rfl) rfl rfl ?_
    refine e_iconst (pc' := 10) (v := 1) (dAt D224 5 rfl) rfl (by decide) ?_
    replace h := h _ rfl
    refine e_putfield (pc' := 13) (dAt D224 6 rfl) rfl rfl hOx0 rfl rfl (fun e => by cases e) ?_
    refine wtF hT hOx0 (by decide) (fun hT_2 => ?_)
    refine e_aload_n (pc' := 14) (dAt D224 7 rfl) rfl rfl ?_
    refine e_iconst (pc' := 15) (v := 0) (dAt D224 8 rfl) rfl (by decide) ?_
    replace h := h _ rfl
    refine e_putfield (pc' := 18) (dAt D224 9 rfl) rfl rfl hOx0 rfl rfl (fun e => by cases e) ?_
    refine wtF hT_2 hOx0 (by decide) (fun hT_4 => ?_)
    refine e_aload_n (pc' := 19) (dAt D224 10 rfl) rfl rfl ?_
    refine e_iconst (pc' := 20) (v := 0) (dAt D224 11 rfl) rfl (by decide) ?_
    replace h := h _ rfl
    refine e_putfield (pc' := 23) (dAt D224 12 rfl) rfl rfl hOx0 rfl rfl (fun e => by cases e) ?_
    refine wtF hT_4 hOx0 (by decide) (fun hT_6 => ?_)
    refine e_aload_n (pc' := 24) (dAt D224 13 rfl) rfl rfl ?_
    refine e_aload_n (pc' := 25) (dAt D224 14 rfl) rfl rfl ?_
    exact e_call2 h (dAt D224 15 rfl) (hi0 rfl) rfl G176 (by decide) rfl (Nat.le_of_ble_eq_true rfl) (kV hOx0 rfl rfl) rfl rfl
  · replace h := h.2 c
    exact e_return (dAt D224 3 rfl) rfl h
-- PlaceNetsModel.unfold.()V, from 28
set_option maxRecDepth 20000 in
theorem bk224_28 {d b : Nat} {Q : Option Value → mMem → Prop} {m : mMem} {x0 : Nat} {x1 : Option Value} {x2 : Option Value} {y0 : Nat} {y1 : Int32} (hT : mWT m) (hOx0 : m.1 x0 = some (.inr 8) ∧ x0 ≠ 0) (hOy0 : m.1 y0 = some (.inr 8) ∧ y0 ≠ 0)
    (h : (((y1 ≤ 12) → (∀ (m_1 : mMem), m_1 = (mSetF m y0 46 (.int 0)) → mEs d 224 b g224 (43, [some (.ref x0), some (.int 0), x2], [], m_1) Q)) ∧ (¬ (y1 ≤ 12) → (∀ (m_3 : mMem), m_3 = (mSetF m y0 46 (.int 1)) → mEs d 224 b g224 (43, [some (.ref x0), some (.int 0), x2], [], m_3) Q)))) :
    mEs d 224 b g224 (28, [some (.ref x0), x1, x2], [.int y1, .ref y0], m) Q := by
  refine e_bipush (pc' := 30) (v := 12) (dAt D224 16 rfl) rfl (by decide) ?_
  refine e_icmp_le (t := 37) (pc' := 33) (dAt D224 17 rfl) ⟨by decide, by decide⟩ rfl (fun c => ?_) (fun c => ?_)
  · replace h := h.1 c
    refine e_iconst (pc' := 38) (v := 0) (dAt D224 20 rfl) rfl (by decide) ?_
    replace h := h _ rfl
    refine e_putfield (pc' := 41) (dAt D224 21 rfl) rfl rfl hOy0 rfl rfl (fun e => by cases e) ?_
    refine wtF hT hOy0 (by decide) (fun hT_2 => ?_)
    refine e_iconst (pc' := 42) (v := 0) (dAt D224 22 rfl) rfl (by decide) ?_
    refine e_istore_n (pc' := 43) (dAt D224 23 rfl) rfl (Nat.le_of_ble_eq_true rfl) rfl ?_
    exact h
  · replace h := h.2 c
    refine e_iconst (pc' := 34) (v := 1) (dAt D224 18 rfl) rfl (by decide) ?_
    refine e_goto (t := 38) (dAt D224 19 rfl) ⟨by decide, by decide⟩ ?_
    replace h := h _ rfl
    refine e_putfield (pc' := 41) (dAt D224 21 rfl) rfl rfl hOy0 rfl rfl (fun e => by cases e) ?_
    refine wtF hT hOy0 (by decide) (fun hT_4 => ?_)
    refine e_iconst (pc' := 42) (v := 0) (dAt D224 22 rfl) rfl (by decide) ?_
    refine e_istore_n (pc' := 43) (dAt D224 23 rfl) rfl (Nat.le_of_ble_eq_true rfl) rfl ?_
    exact h
-- PlaceNetsModel.unfold.()V, from 43
set_option maxRecDepth 20000 in
theorem bk224_43 {d b : Nat} {Q : Option Value → mMem → Prop} {m : mMem} {x0 : Nat} {x1 : Int32} {x2 : Option Value} (hT : mWT m) (hOx0 : m.1 x0 = some (.inr 8) ∧ x0 ≠ 0)
    (h : ((((iF m x0 7) ≤ x1) → (mEs d 224 b g224 (88, [some (.ref x0), some (.int 0), x2], [], m) Q)) ∧ (¬ ((iF m x0 7) ≤ x1) → (((¬ (iF m x0 46) = 0) → (∀ (m_1 : mMem), m_1 = (mSetF m x0 46 (.int 1)) → ∀ (v_3 : Int32), v_3 = (x1 + 1) → mEs d 224 b g224 (43, [some (.ref x0), some (.int v_3), x2], [], m_1) Q)) ∧ (¬ (¬ (iF m x0 46) = 0) → (mEv d 220 [.ref x0, .ref (64 * x0 + 2), .int x1] m (fun r m' => mEs d 224 b g224 (68, [some (.ref x0), some (.int x1), x2], r.toList ++ [.ref x0], m') Q))))))) :
    mEs d 224 b g224 (43, [some (.ref x0), some (.int x1), x2], [], m) Q := by
  refine e_iload_n (pc' := 44) (dAt D224 24 rfl) rfl rfl ?_
  refine e_aload_n (pc' := 45) (dAt D224 25 rfl) rfl rfl ?_
  refine e_getfield (pc' := 48) (dAt D224 26 rfl) rfl rfl hOx0 (hT.int hOx0 7 (by decide)) ?_
  refine e_icmp_ge (t := 86) (pc' := 51) (dAt D224 27 rfl) ⟨by decide, by decide⟩ rfl (fun c => ?_) (fun c => ?_)
  · replace h := h.1 c
    refine e_iconst (pc' := 87) (v := 0) (dAt D224 45 rfl) rfl (by decide) ?_
    refine e_istore_n (pc' := 88) (dAt D224 46 rfl) rfl (Nat.le_of_ble_eq_true rfl) rfl ?_
    exact h
  · replace h := h.2 c
    refine e_aload_n (pc' := 52) (dAt D224 28 rfl) rfl rfl ?_
    refine e_aload_n (pc' := 53) (dAt D224 29 rfl) rfl rfl ?_
    refine e_getfield (pc' := 56) (dAt D224 30 rfl) rfl rfl hOx0 (hT.int hOx0 46 (by decide)) ?_
    refine e_if_ne (t := 72) (pc' := 59) (dAt D224 31 rfl) ⟨by decide, by decide⟩ rfl (fun c => ?_) (fun c => ?_)
    · replace h := h.1 c
      refine e_iconst (pc' := 73) (v := 1) (dAt D224 39 rfl) rfl (by decide) ?_
      refine e_goto (t := 77) (dAt D224 40 rfl) ⟨by decide, by decide⟩ ?_
      replace h := h _ rfl
      refine e_putfield (pc' := 80) (dAt D224 42 rfl) rfl rfl hOx0 rfl rfl (fun e => by cases e) ?_
      refine wtF hT hOx0 (by decide) (fun hT_2 => ?_)
      replace h := h _ rfl
      refine e_iinc (pc' := 83) (dAt D224 43 rfl) rfl rfl (Nat.le_of_ble_eq_true rfl) (congrArg (_ + ·) (show Int32.ofInt (1) = (1 : Int32) by decide)) rfl ?_
      refine e_goto (t := 43) (dAt D224 44 rfl) ⟨by decide, by decide⟩ ?_
      exact h
    · replace h := h.2 c
      refine e_aload_n (pc' := 60) (dAt D224 32 rfl) rfl rfl ?_
      refine e_aload_n (pc' := 61) (dAt D224 33 rfl) rfl rfl ?_
      refine e_getfield (pc' := 64) (dAt D224 34 rfl) rfl rfl hOx0 (hT.own hOx0 1 rfl) ?_
      refine e_iload_n (pc' := 65) (dAt D224 35 rfl) rfl rfl ?_
      exact e_call2 h (dAt D224 36 rfl) (hi0 rfl) rfl G220 (by decide) rfl (Nat.le_of_ble_eq_true rfl) (kV hOx0 rfl rfl) rfl rfl
-- PlaceNetsModel.unfold.()V, from 68
set_option maxRecDepth 20000 in
theorem bk224_68 {d b : Nat} {Q : Option Value → mMem → Prop} {m : mMem} {x0 : Nat} {x1 : Int32} {x2 : Option Value} {y0 : Nat} {y1 : Int32} (hT : mWT m) (hOx0 : m.1 x0 = some (.inr 8) ∧ x0 ≠ 0) (hOy0 : m.1 y0 = some (.inr 8) ∧ y0 ≠ 0)
    (h : (((y1 ≤ 3) → (∀ (m_1 : mMem), m_1 = (mSetF m y0 46 (.int 0)) → ∀ (v_3 : Int32), v_3 = (x1 + 1) → mEs d 224 b g224 (43, [some (.ref x0), some (.int v_3), x2], [], m_1) Q)) ∧ (¬ (y1 ≤ 3) → (∀ (m_4 : mMem), m_4 = (mSetF m y0 46 (.int 1)) → ∀ (v_6 : Int32), v_6 = (x1 + 1) → mEs d 224 b g224 (43, [some (.ref x0), some (.int v_6), x2], [], m_4) Q)))) :
    mEs d 224 b g224 (68, [some (.ref x0), some (.int x1), x2], [.int y1, .ref y0], m) Q := by
  refine e_iconst (pc' := 69) (v := 3) (dAt D224 37 rfl) rfl (by decide) ?_
  refine e_icmp_le (t := 76) (pc' := 72) (dAt D224 38 rfl) ⟨by decide, by decide⟩ rfl (fun c => ?_) (fun c => ?_)
  · replace h := h.1 c
    refine e_iconst (pc' := 77) (v := 0) (dAt D224 41 rfl) rfl (by decide) ?_
    replace h := h _ rfl
    refine e_putfield (pc' := 80) (dAt D224 42 rfl) rfl rfl hOy0 rfl rfl (fun e => by cases e) ?_
    refine wtF hT hOy0 (by decide) (fun hT_2 => ?_)
    replace h := h _ rfl
    refine e_iinc (pc' := 83) (dAt D224 43 rfl) rfl rfl (Nat.le_of_ble_eq_true rfl) (congrArg (_ + ·) (show Int32.ofInt (1) = (1 : Int32) by decide)) rfl ?_
    refine e_goto (t := 43) (dAt D224 44 rfl) ⟨by decide, by decide⟩ ?_
    exact h
  · replace h := h.2 c
    refine e_iconst (pc' := 73) (v := 1) (dAt D224 39 rfl) rfl (by decide) ?_
    refine e_goto (t := 77) (dAt D224 40 rfl) ⟨by decide, by decide⟩ ?_
    replace h := h _ rfl
    refine e_putfield (pc' := 80) (dAt D224 42 rfl) rfl rfl hOy0 rfl rfl (fun e => by cases e) ?_
    refine wtF hT hOy0 (by decide) (fun hT_5 => ?_)
    replace h := h _ rfl
    refine e_iinc (pc' := 83) (dAt D224 43 rfl) rfl rfl (Nat.le_of_ble_eq_true rfl) (congrArg (_ + ·) (show Int32.ofInt (1) = (1 : Int32) by decide)) rfl ?_
    refine e_goto (t := 43) (dAt D224 44 rfl) ⟨by decide, by decide⟩ ?_
    exact h
-- PlaceNetsModel.unfold.()V, from 88
set_option maxRecDepth 20000 in
theorem bk224_88 {d b : Nat} {Q : Option Value → mMem → Prop} {m : mMem} {x0 : Nat} {x1 : Int32} {x2 : Option Value} (hT : mWT m) (hOx0 : m.1 x0 = some (.inr 8) ∧ x0 ≠ 0)
    (h : ((((iF m x0 6) ≤ x1) → (mEs d 224 b g224 (135, [some (.ref x0), some (.int 1), x2], [], m) Q)) ∧ (¬ ((iF m x0 6) ≤ x1) → (((¬ (iF m x0 46) = 0) → (mEs d 224 b g224 (135, [some (.ref x0), some (.int 1), x2], [], m) Q)) ∧ (¬ (¬ (iF m x0 46) = 0) → (mEs d 224 b g224 (105, [some (.ref x0), some (.int x1), some (.int 0)], [], m) Q)))))) :
    mEs d 224 b g224 (88, [some (.ref x0), some (.int x1), x2], [], m) Q := by
  refine e_iload_n (pc' := 89) (dAt D224 47 rfl) rfl rfl ?_
  refine e_aload_n (pc' := 90) (dAt D224 48 rfl) rfl rfl ?_
  refine e_getfield (pc' := 93) (dAt D224 49 rfl) rfl rfl hOx0 (hT.int hOx0 6 (by decide)) ?_
  refine e_icmp_ge (t := 133) (pc' := 96) (dAt D224 50 rfl) ⟨by decide, by decide⟩ rfl (fun c => ?_) (fun c => ?_)
  · replace h := h.1 c
    refine e_iconst (pc' := 134) (v := 1) (dAt D224 70 rfl) rfl (by decide) ?_
    refine e_istore_n (pc' := 135) (dAt D224 71 rfl) rfl (Nat.le_of_ble_eq_true rfl) rfl ?_
    exact h
  · replace h := h.2 c
    refine e_aload_n (pc' := 97) (dAt D224 51 rfl) rfl rfl ?_
    refine e_getfield (pc' := 100) (dAt D224 52 rfl) rfl rfl hOx0 (hT.int hOx0 46 (by decide)) ?_
    refine e_if_ne (t := 133) (pc' := 103) (dAt D224 53 rfl) ⟨by decide, by decide⟩ rfl (fun c => ?_) (fun c => ?_)
    · replace h := h.1 c
      refine e_iconst (pc' := 134) (v := 1) (dAt D224 70 rfl) rfl (by decide) ?_
      refine e_istore_n (pc' := 135) (dAt D224 71 rfl) rfl (Nat.le_of_ble_eq_true rfl) rfl ?_
      exact h
    · replace h := h.2 c
      refine e_iconst (pc' := 104) (v := 0) (dAt D224 54 rfl) rfl (by decide) ?_
      refine e_istore_n (pc' := 105) (dAt D224 55 rfl) rfl (Nat.le_of_ble_eq_true rfl) rfl ?_
      exact h
-- PlaceNetsModel.unfold.()V, from 105
set_option maxRecDepth 20000 in
theorem bk224_105 {d b : Nat} {Q : Option Value → mMem → Prop} {m : mMem} {x0 : Nat} {x1 : Int32} {x2 : Int32} (hT : mWT m) (hOx0 : m.1 x0 = some (.inr 8) ∧ x0 ≠ 0)
    (h : (mIn x1 10 = true) ∧ ((((m.2.2.1 (64 * x0 + 4) x1.toNatClampNeg) ≤ x2) → (∀ (v_1 : Int32), v_1 = (x1 + 1) → mEs d 224 b g224 (88, [some (.ref x0), some (.int v_1), some (.int x2)], [], m) Q)) ∧ (¬ ((m.2.2.1 (64 * x0 + 4) x1.toNatClampNeg) ≤ x2) → (mEv d 225 [.ref x0, .int x1, .int ((-1))] m (fun r m' => mEs d 224 b g224 (121, [some (.ref x0), some (.int x1), some (.int x2)], r.toList ++ [], m') Q))))) :
    mEs d 224 b g224 (105, [some (.ref x0), some (.int x1), some (.int x2)], [], m) Q := by
  refine e_iload_n (pc' := 106) (dAt D224 56 rfl) rfl rfl ?_
  refine e_aload_n (pc' := 107) (dAt D224 57 rfl) rfl rfl ?_
  refine e_getfield (pc' := 110) (dAt D224 58 rfl) rfl rfl hOx0 (hT.own hOx0 3 rfl) ?_
  refine e_iload_n (pc' := 111) (dAt D224 59 rfl) rfl rfl ?_
  obtain ⟨f1, h⟩ := h
  refine e_iaload (pc' := 112) (dAt D224 60 rfl) rfl (hT.arr hOx0 3 rfl (by decide)).1 (Or.inl (hT.arr hOx0 3 rfl (by decide)).2) f1 rfl ?_
  refine e_icmp_ge (t := 127) (pc' := 115) (dAt D224 61 rfl) ⟨by decide, by decide⟩ rfl (fun c => ?_) (fun c => ?_)
  · replace h := h.1 c
    replace h := h _ rfl
    refine e_iinc (pc' := 130) (dAt D224 68 rfl) rfl rfl (Nat.le_of_ble_eq_true rfl) (congrArg (_ + ·) (show Int32.ofInt (1) = (1 : Int32) by decide)) rfl ?_
    refine e_goto (t := 88) (dAt D224 69 rfl) ⟨by decide, by decide⟩ ?_
    exact h
  · replace h := h.2 c
    refine e_aload_n (pc' := 116) (dAt D224 62 rfl) rfl rfl ?_
    refine e_iload_n (pc' := 117) (dAt D224 63 rfl) rfl rfl ?_
    refine e_iconst (pc' := 118) (v := (-1)) (dAt D224 64 rfl) rfl (by decide) ?_
    exact e_call2 h (dAt D224 65 rfl) (hi0 rfl) rfl G225 (by decide) rfl (Nat.le_of_ble_eq_true rfl) (kV hOx0 rfl rfl) rfl rfl
-- PlaceNetsModel.unfold.()V, from 121
set_option maxRecDepth 20000 in
theorem bk224_121 {d b : Nat} {Q : Option Value → mMem → Prop} {m : mMem} {x0 : Nat} {x1 : Int32} {x2 : Int32} (hT : mWT m) (hOx0 : m.1 x0 = some (.inr 8) ∧ x0 ≠ 0)
    (h : ∀ (v_1 : Int32), v_1 = (x2 + 1) → mEs d 224 b g224 (105, [some (.ref x0), some (.int x1), some (.int v_1)], [], m) Q) :
    mEs d 224 b g224 (121, [some (.ref x0), some (.int x1), some (.int x2)], [], m) Q := by
  replace h := h _ rfl
  refine e_iinc (pc' := 124) (dAt D224 66 rfl) rfl rfl (Nat.le_of_ble_eq_true rfl) (congrArg (_ + ·) (show Int32.ofInt (1) = (1 : Int32) by decide)) rfl ?_
  refine e_goto (t := 105) (dAt D224 67 rfl) ⟨by decide, by decide⟩ ?_
  exact h
-- PlaceNetsModel.unfold.()V, from 135
set_option maxRecDepth 20000 in
theorem bk224_135 {d b : Nat} {Q : Option Value → mMem → Prop} {m : mMem} {x0 : Nat} {x1 : Int32} {x2 : Option Value} (hT : mWT m) (hOx0 : m.1 x0 = some (.inr 8) ∧ x0 ≠ 0)
    (h : (((x1 = 0) → (Q none m)) ∧ (¬ (x1 = 0) → (((¬ (iF m x0 46) = 0) → (Q none m)) ∧ (¬ (¬ (iF m x0 46) = 0) → (∀ (m_1 : mMem), m_1 = (mSetF m x0 64 (.int 32)) → ∀ (m_3 : mMem), m_3 = (mSetF m_1 x0 63 (.int ((-1)))) → mEs d 224 b g224 (159, [some (.ref x0), some (.int x1), some (.int 0)], [], m_3) Q)))))) :
    mEs d 224 b g224 (135, [some (.ref x0), some (.int x1), x2], [], m) Q := by
  refine e_iload_n (pc' := 136) (dAt D224 72 rfl) rfl rfl ?_
  refine e_if_eq (t := 232) (pc' := 139) (dAt D224 73 rfl) ⟨by decide, by decide⟩ rfl (fun c => ?_) (fun c => ?_)
  · replace h := h.1 c
    exact e_return (dAt D224 121 rfl) rfl h
  · replace h := h.2 c
    refine e_aload_n (pc' := 140) (dAt D224 74 rfl) rfl rfl ?_
    refine e_getfield (pc' := 143) (dAt D224 75 rfl) rfl rfl hOx0 (hT.int hOx0 46 (by decide)) ?_
    refine e_if_ne (t := 232) (pc' := 146) (dAt D224 76 rfl) ⟨by decide, by decide⟩ rfl (fun c => ?_) (fun c => ?_)
    · replace h := h.1 c
      exact e_return (dAt D224 121 rfl) rfl h
    · replace h := h.2 c
      refine e_aload_n (pc' := 147) (dAt D224 77 rfl) rfl rfl ?_
      refine e_bipush (pc' := 149) (v := 32) (dAt D224 78 rfl) rfl (by decide) ?_
      replace h := h _ rfl
      refine e_putfield (pc' := 152) (dAt D224 79 rfl) rfl rfl hOx0 rfl rfl (fun e => by cases e) ?_
      refine wtF hT hOx0 (by decide) (fun hT_2 => ?_)
      refine e_aload_n (pc' := 153) (dAt D224 80 rfl) rfl rfl ?_
      refine e_iconst (pc' := 154) (v := (-1)) (dAt D224 81 rfl) rfl (by decide) ?_
      replace h := h _ rfl
      refine e_putfield (pc' := 157) (dAt D224 82 rfl) rfl rfl hOx0 rfl rfl (fun e => by cases e) ?_
      refine wtF hT_2 hOx0 (by decide) (fun hT_4 => ?_)
      refine e_iconst (pc' := 158) (v := 0) (dAt D224 83 rfl) rfl (by decide) ?_
      refine e_istore_n (pc' := 159) (dAt D224 84 rfl) rfl (Nat.le_of_ble_eq_true rfl) rfl ?_
      exact h
-- PlaceNetsModel.unfold.()V, from 159
set_option maxRecDepth 20000 in
theorem bk224_159 {d b : Nat} {Q : Option Value → mMem → Prop} {m : mMem} {x0 : Nat} {x1 : Int32} {x2 : Int32} (hT : mWT m) (hOx0 : m.1 x0 = some (.inr 8) ∧ x0 ≠ 0)
    (h : ((((iF m x0 7) ≤ x2) → ((((iF m x0 63) = ((-1))) → (∀ (m_1 : mMem), m_1 = (mSetF m x0 46 (.int 0)) → mEs d 224 b g224 (135, [some (.ref x0), some (.int 0), some (.int x2)], [], m_1) Q)) ∧ (¬ ((iF m x0 63) = ((-1))) → (((¬ (iF m x0 47) = 30) → (∀ (m_3 : mMem), m_3 = (mSetF m x0 46 (.int 0)) → (((¬ (iF m_3 x0 46) = 0) → (mEs d 224 b g224 (135, [some (.ref x0), some (.int 1), some (.int x2)], [], m_3) Q)) ∧ (¬ (¬ (iF m_3 x0 46) = 0) → (mEv d 235 [.ref x0] m_3 (fun r m' => mEs d 224 b g224 (229, [some (.ref x0), some (.int 1), some (.int x2)], r.toList ++ [], m') Q)))))) ∧ (¬ (¬ (iF m x0 47) = 30) → (∀ (m_5 : mMem), m_5 = (mSetF m x0 46 (.int 1)) → (((¬ (iF m_5 x0 46) = 0) → (mEs d 224 b g224 (135, [some (.ref x0), some (.int 1), some (.int x2)], [], m_5) Q)) ∧ (¬ (¬ (iF m_5 x0 46) = 0) → (mEv d 235 [.ref x0] m_5 (fun r m' => mEs d 224 b g224 (229, [some (.ref x0), some (.int 1), some (.int x2)], r.toList ++ [], m') Q)))))))))) ∧ (¬ ((iF m x0 7) ≤ x2) → (mEv d 226 [.ref x0, .int x2] m (fun r m' => mEs d 224 b g224 (172, [some (.ref x0), some (.int x1), some (.int x2)], r.toList ++ [], m') Q))))) :
    mEs d 224 b g224 (159, [some (.ref x0), some (.int x1), some (.int x2)], [], m) Q := by
  refine e_iload_n (pc' := 160) (dAt D224 85 rfl) rfl rfl ?_
  refine e_aload_n (pc' := 161) (dAt D224 86 rfl) rfl rfl ?_
  refine e_getfield (pc' := 164) (dAt D224 87 rfl) rfl rfl hOx0 (hT.int hOx0 7 (by decide)) ?_
  refine e_icmp_ge (t := 178) (pc' := 167) (dAt D224 88 rfl) ⟨by decide, by decide⟩ rfl (fun c => ?_) (fun c => ?_)
  · replace h := h.1 c
    refine e_aload_n (pc' := 179) (dAt D224 94 rfl) rfl rfl ?_
    refine e_getfield (pc' := 182) (dAt D224 95 rfl) rfl rfl hOx0 (hT.int hOx0 63 (by decide)) ?_
    refine e_iconst (pc' := 183) (v := (-1)) (dAt D224 96 rfl) rfl (by decide) ?_
    refine e_icmp_eq (t := 190) (pc' := 186) (dAt D224 97 rfl) ⟨by decide, by decide⟩ rfl (fun c => ?_) (fun c => ?_)
    · replace h := h.1 c
      refine e_iconst (pc' := 191) (v := 0) (dAt D224 100 rfl) rfl (by decide) ?_
      refine e_istore_n (pc' := 192) (dAt D224 101 rfl) rfl (Nat.le_of_ble_eq_true rfl) rfl ?_
      refine e_aload_n (pc' := 193) (dAt D224 102 rfl) rfl rfl ?_
      refine e_iload_n (pc' := 194) (dAt D224 103 rfl) rfl rfl ?_
      refine e_if_eq (t := 210) (pc' := 197) (dAt D224 104 rfl) ⟨by decide, by decide⟩ rfl (fun c => ?_) (fun c => absurd (by decide) c)
      refine e_iconst (pc' := 211) (v := 0) (dAt D224 111 rfl) rfl (by decide) ?_
      replace h := h _ rfl
      refine e_putfield (pc' := 214) (dAt D224 112 rfl) rfl rfl hOx0 rfl rfl (fun e => by cases e) ?_
      refine wtF hT hOx0 (by decide) (fun hT_2 => ?_)
      refine e_iload_n (pc' := 215) (dAt D224 113 rfl) rfl rfl ?_
      refine e_if_eq (t := 135) (pc' := 218) (dAt D224 114 rfl) ⟨by decide, by decide⟩ rfl (fun c => ?_) (fun c => absurd (by decide) c)
      exact h
    · replace h := h.2 c
      refine e_iconst (pc' := 187) (v := 1) (dAt D224 98 rfl) rfl (by decide) ?_
      refine e_goto (t := 191) (dAt D224 99 rfl) ⟨by decide, by decide⟩ ?_
      refine e_istore_n (pc' := 192) (dAt D224 101 rfl) rfl (Nat.le_of_ble_eq_true rfl) rfl ?_
      refine e_aload_n (pc' := 193) (dAt D224 102 rfl) rfl rfl ?_
      refine e_iload_n (pc' := 194) (dAt D224 103 rfl) rfl rfl ?_
      refine e_if_eq (t := 210) (pc' := 197) (dAt D224 104 rfl) ⟨by decide, by decide⟩ rfl (fun c => absurd c (by decide)) (fun c => ?_)
      refine e_aload_n (pc' := 198) (dAt D224 105 rfl) rfl rfl ?_
      refine e_getfield (pc' := 201) (dAt D224 106 rfl) rfl rfl hOx0 (hT.int hOx0 47 (by decide)) ?_
      refine e_bipush (pc' := 203) (v := 30) (dAt D224 107 rfl) rfl (by decide) ?_
      refine e_icmp_ne (t := 210) (pc' := 206) (dAt D224 108 rfl) ⟨by decide, by decide⟩ rfl (fun c => ?_) (fun c => ?_)
      · replace h := h.1 c
        refine e_iconst (pc' := 211) (v := 0) (dAt D224 111 rfl) rfl (by decide) ?_
        replace h := h _ rfl
        refine e_putfield (pc' := 214) (dAt D224 112 rfl) rfl rfl hOx0 rfl rfl (fun e => by cases e) ?_
        refine wtF hT hOx0 (by decide) (fun hT_4 => ?_)
        refine e_iload_n (pc' := 215) (dAt D224 113 rfl) rfl rfl ?_
        refine e_if_eq (t := 135) (pc' := 218) (dAt D224 114 rfl) ⟨by decide, by decide⟩ rfl (fun c => absurd c (by decide)) (fun c => ?_)
        refine e_aload_n (pc' := 219) (dAt D224 115 rfl) rfl rfl ?_
        refine e_getfield (pc' := 222) (dAt D224 116 rfl) rfl rfl hOx0 (hT_4.int hOx0 46 (by decide)) ?_
        refine e_if_ne (t := 135) (pc' := 225) (dAt D224 117 rfl) ⟨by decide, by decide⟩ rfl (fun c => ?_) (fun c => ?_)
        · replace h := h.1 c
          exact h
        · replace h := h.2 c
          refine e_aload_n (pc' := 226) (dAt D224 118 rfl) rfl rfl ?_
          exact e_call2 h (dAt D224 119 rfl) (hi0 rfl) rfl G235 (by decide) rfl (Nat.le_of_ble_eq_true rfl) (kV hOx0 rfl rfl) rfl rfl
      · replace h := h.2 c
        refine e_iconst (pc' := 207) (v := 1) (dAt D224 109 rfl) rfl (by decide) ?_
        refine e_goto (t := 211) (dAt D224 110 rfl) ⟨by decide, by decide⟩ ?_
        replace h := h _ rfl
        refine e_putfield (pc' := 214) (dAt D224 112 rfl) rfl rfl hOx0 rfl rfl (fun e => by cases e) ?_
        refine wtF hT hOx0 (by decide) (fun hT_6 => ?_)
        refine e_iload_n (pc' := 215) (dAt D224 113 rfl) rfl rfl ?_
        refine e_if_eq (t := 135) (pc' := 218) (dAt D224 114 rfl) ⟨by decide, by decide⟩ rfl (fun c => absurd c (by decide)) (fun c => ?_)
        refine e_aload_n (pc' := 219) (dAt D224 115 rfl) rfl rfl ?_
        refine e_getfield (pc' := 222) (dAt D224 116 rfl) rfl rfl hOx0 (hT_6.int hOx0 46 (by decide)) ?_
        refine e_if_ne (t := 135) (pc' := 225) (dAt D224 117 rfl) ⟨by decide, by decide⟩ rfl (fun c => ?_) (fun c => ?_)
        · replace h := h.1 c
          exact h
        · replace h := h.2 c
          refine e_aload_n (pc' := 226) (dAt D224 118 rfl) rfl rfl ?_
          exact e_call2 h (dAt D224 119 rfl) (hi0 rfl) rfl G235 (by decide) rfl (Nat.le_of_ble_eq_true rfl) (kV hOx0 rfl rfl) rfl rfl
  · replace h := h.2 c
    refine e_aload_n (pc' := 168) (dAt D224 89 rfl) rfl rfl ?_
    refine e_iload_n (pc' := 169) (dAt D224 90 rfl) rfl rfl ?_
    exact e_call2 h (dAt D224 91 rfl) (hi0 rfl) rfl G226 (by decide) rfl (Nat.le_of_ble_eq_true rfl) (kV hOx0 rfl rfl) rfl rfl
-- PlaceNetsModel.unfold.()V, from 172
set_option maxRecDepth 20000 in
theorem bk224_172 {d b : Nat} {Q : Option Value → mMem → Prop} {m : mMem} {x0 : Nat} {x1 : Int32} {x2 : Int32} (hT : mWT m) (hOx0 : m.1 x0 = some (.inr 8) ∧ x0 ≠ 0)
    (h : ∀ (v_1 : Int32), v_1 = (x2 + 1) → mEs d 224 b g224 (159, [some (.ref x0), some (.int x1), some (.int v_1)], [], m) Q) :
    mEs d 224 b g224 (172, [some (.ref x0), some (.int x1), some (.int x2)], [], m) Q := by
  replace h := h _ rfl
  refine e_iinc (pc' := 175) (dAt D224 92 rfl) rfl rfl (Nat.le_of_ble_eq_true rfl) (congrArg (_ + ·) (show Int32.ofInt (1) = (1 : Int32) by decide)) rfl ?_
  refine e_goto (t := 159) (dAt D224 93 rfl) ⟨by decide, by decide⟩ ?_
  exact h
-- PlaceNetsModel.unfold.()V, from 229
set_option maxRecDepth 20000 in
theorem bk224_229 {d b : Nat} {Q : Option Value → mMem → Prop} {m : mMem} {x0 : Nat} {x1 : Int32} {x2 : Int32} (hT : mWT m) (hOx0 : m.1 x0 = some (.inr 8) ∧ x0 ≠ 0)
    (h : mEs d 224 b g224 (135, [some (.ref x0), some (.int x1), some (.int x2)], [], m) Q) :
    mEs d 224 b g224 (229, [some (.ref x0), some (.int x1), some (.int x2)], [], m) Q := by
  refine e_goto (t := 135) (dAt D224 120 rfl) ⟨by decide, by decide⟩ ?_
  exact h
-- PlaceNetsModel.addCondition.(II)V, from 0
set_option maxRecDepth 20000 in
theorem bk225_0 {d b : Nat} {Q : Option Value → mMem → Prop} {m : mMem} {x0 : Nat} {x1 : Int32} {x2 : Int32} (hT : mWT m) (hOx0 : m.1 x0 = some (.inr 8) ∧ x0 ≠ 0)
    (h : (((¬ (iF m x0 55) = 80) → ((mIn (iF m x0 55) 81 = true) ∧ (∀ (m_1 : mMem), m_1 = (mSetI m (64 * x0 + 35) (upd (m.2.2.1 (64 * x0 + 35)) (iF m x0 55).toNatClampNeg x1)) → (mIn (iF m_1 x0 55) 81 = true) ∧ (∀ (m_3 : mMem), m_3 = (mSetI m_1 (64 * x0 + 36) (upd (m_1.2.2.1 (64 * x0 + 36)) (iF m_1 x0 55).toNatClampNeg x2)) → (mIn (iF m_3 x0 55) 81 = true) ∧ (∀ (m_5 : mMem), m_5 = (mSetI m_3 (64 * x0 + 37) (upd (m_3.2.2.1 (64 * x0 + 37)) (iF m_3 x0 55).toNatClampNeg 0)) → ∀ (m_7 : mMem), m_7 = (mSetF m_5 x0 55 (.int ((iF m_5 x0 55) + 1))) → Q none m_7))))) ∧ (¬ (¬ (iF m x0 55) = 80) → (∀ (m_9 : mMem), m_9 = (mSetF m x0 46 (.int 1)) → Q none m_9)))) :
    mEs d 225 b g225 (0, [some (.ref x0), some (.int x1), some (.int x2)], [], m) Q := by
  refine e_aload_n (pc' := 1) (dAt D225 0 rfl) rfl rfl ?_
  refine e_getfield (pc' := 4) (dAt D225 1 rfl) rfl rfl hOx0 (hT.int hOx0 55 (by decide)) ?_
  refine e_bipush (pc' := 6) (v := 80) (dAt D225 2 rfl) rfl (by decide) ?_
  refine e_icmp_ne (t := 15) (pc' := 9) (dAt D225 3 rfl) ⟨by decide, by decide⟩ rfl (fun c => ?_) (fun c => ?_)
  · replace h := h.1 c
    refine e_aload_n (pc' := 16) (dAt D225 8 rfl) rfl rfl ?_
    refine e_getfield (pc' := 19) (dAt D225 9 rfl) rfl rfl hOx0 (hT.own hOx0 34 rfl) ?_
    refine e_aload_n (pc' := 20) (dAt D225 10 rfl) rfl rfl ?_
    refine e_getfield (pc' := 23) (dAt D225 11 rfl) rfl rfl hOx0 (hT.int hOx0 55 (by decide)) ?_
    refine e_iload_n (pc' := 24) (dAt D225 12 rfl) rfl rfl ?_
    obtain ⟨f1, h⟩ := h
    replace h := h _ rfl
    refine e_iastore (pc' := 25) (dAt D225 13 rfl) rfl (hT.arr hOx0 34 rfl (by decide)).1 (hT.arr hOx0 34 rfl (by decide)).2 f1 (nar_i _) ?_
    refine wtI hT (fun hT_2 => ?_)
    refine e_aload_n (pc' := 26) (dAt D225 14 rfl) rfl rfl ?_
    refine e_getfield (pc' := 29) (dAt D225 15 rfl) rfl rfl hOx0 (hT_2.own hOx0 35 rfl) ?_
    refine e_aload_n (pc' := 30) (dAt D225 16 rfl) rfl rfl ?_
    refine e_getfield (pc' := 33) (dAt D225 17 rfl) rfl rfl hOx0 (hT_2.int hOx0 55 (by decide)) ?_
    refine e_iload_n (pc' := 34) (dAt D225 18 rfl) rfl rfl ?_
    obtain ⟨f1, h⟩ := h
    replace h := h _ rfl
    refine e_iastore (pc' := 35) (dAt D225 19 rfl) rfl (hT_2.arr hOx0 35 rfl (by decide)).1 (hT_2.arr hOx0 35 rfl (by decide)).2 f1 (nar_i _) ?_
    refine wtI hT_2 (fun hT_4 => ?_)
    refine e_aload_n (pc' := 36) (dAt D225 20 rfl) rfl rfl ?_
    refine e_getfield (pc' := 39) (dAt D225 21 rfl) rfl rfl hOx0 (hT_4.own hOx0 36 rfl) ?_
    refine e_aload_n (pc' := 40) (dAt D225 22 rfl) rfl rfl ?_
    refine e_getfield (pc' := 43) (dAt D225 23 rfl) rfl rfl hOx0 (hT_4.int hOx0 55 (by decide)) ?_
    refine e_iconst (pc' := 44) (v := 0) (dAt D225 24 rfl) rfl (by decide) ?_
    obtain ⟨f1, h⟩ := h
    replace h := h _ rfl
    refine e_iastore (pc' := 45) (dAt D225 25 rfl) rfl (hT_4.arr hOx0 36 rfl (by decide)).1 (hT_4.arr hOx0 36 rfl (by decide)).2 f1 (nar_i _) ?_
    refine wtI hT_4 (fun hT_6 => ?_)
    refine e_aload_n (pc' := 46) (dAt D225 26 rfl) rfl rfl ?_
    refine e_dup (pc' := 47) (dAt D225 27 rfl) rfl rfl ?_
    refine e_getfield (pc' := 50) (dAt D225 28 rfl) rfl rfl hOx0 (hT_6.int hOx0 55 (by decide)) ?_
    refine e_iconst (pc' := 51) (v := 1) (dAt D225 29 rfl) rfl (by decide) ?_
    refine e_iadd (pc' := 52) (dAt D225 30 rfl) rfl ?_
    replace h := h _ rfl
    refine e_putfield (pc' := 55) (dAt D225 31 rfl) rfl rfl hOx0 rfl rfl (fun e => by cases e) ?_
    refine wtF hT_6 hOx0 (by decide) (fun hT_8 => ?_)
    exact e_return (dAt D225 32 rfl) rfl h
  · replace h := h.2 c
    refine e_aload_n (pc' := 10) (dAt D225 4 rfl) rfl rfl ?_
    refine e_iconst (pc' := 11) (v := 1) (dAt D225 5 rfl) rfl (by decide) ?_
    replace h := h _ rfl
    refine e_putfield (pc' := 14) (dAt D225 6 rfl) rfl rfl hOx0 rfl rfl (fun e => by cases e) ?_
    refine wtF hT hOx0 (by decide) (fun hT_10 => ?_)
    exact e_return (dAt D225 7 rfl) rfl h
-- PlaceNetsModel.choose.(I)V, from 0
set_option maxRecDepth 20000 in
theorem bk226_0 {d b : Nat} {Q : Option Value → mMem → Prop} {m : mMem} {x0 : Nat} {x1 : Int32} {x2 : Option Value} (hT : mWT m) (hOx0 : m.1 x0 = some (.inr 8) ∧ x0 ≠ 0)
    (h : mEv d 227 [.ref x0, .int x1] m (fun r m' => mEs d 226 b g226 (5, [some (.ref x0), some (.int x1), x2], r.toList ++ [], m') Q)) :
    mEs d 226 b g226 (0, [some (.ref x0), some (.int x1), x2], [], m) Q := by
  refine e_aload_n (pc' := 1) (dAt D226 0 rfl) rfl rfl ?_
  refine e_iload_n (pc' := 2) (dAt D226 1 rfl) rfl rfl ?_
  exact e_call2 h (dAt D226 2 rfl) (hi0 rfl) rfl G227 (by decide) rfl (Nat.le_of_ble_eq_true rfl) (kV hOx0 rfl rfl) rfl rfl
-- PlaceNetsModel.choose.(I)V, from 5
set_option maxRecDepth 20000 in
theorem bk226_5 {d b : Nat} {Q : Option Value → mMem → Prop} {m : mMem} {x0 : Nat} {x1 : Int32} {x2 : Option Value} (hT : mWT m) (hOx0 : m.1 x0 = some (.inr 8) ∧ x0 ≠ 0)
    (h : (mIn 0 3 = true) ∧ (∀ (m_1 : mMem), m_1 = (mSetI m (64 * x0 + 39) (upd (m.2.2.1 (64 * x0 + 39)) (0 : Int32).toNatClampNeg ((-1)))) → mEs d 226 b g226 (14, [some (.ref x0), some (.int x1), some (.int 0)], [], m_1) Q)) :
    mEs d 226 b g226 (5, [some (.ref x0), some (.int x1), x2], [], m) Q := by
  refine e_iconst (pc' := 6) (v := 0) (dAt D226 3 rfl) rfl (by decide) ?_
  refine e_istore_n (pc' := 7) (dAt D226 4 rfl) rfl (Nat.le_of_ble_eq_true rfl) rfl ?_
  refine e_aload_n (pc' := 8) (dAt D226 5 rfl) rfl rfl ?_
  refine e_getfield (pc' := 11) (dAt D226 6 rfl) rfl rfl hOx0 (hT.own hOx0 38 rfl) ?_
  refine e_iconst (pc' := 12) (v := 0) (dAt D226 7 rfl) rfl (by decide) ?_
  refine e_iconst (pc' := 13) (v := (-1)) (dAt D226 8 rfl) rfl (by decide) ?_
  obtain ⟨f1, h⟩ := h
  replace h := h _ rfl
  refine e_iastore (pc' := 14) (dAt D226 9 rfl) rfl (hT.arr hOx0 38 rfl (by decide)).1 (hT.arr hOx0 38 rfl (by decide)).2 f1 (nar_i _) ?_
  refine wtI hT (fun hT_2 => ?_)
  exact h
-- PlaceNetsModel.choose.(I)V, from 14
set_option maxRecDepth 20000 in
theorem bk226_14 {d b : Nat} {Q : Option Value → mMem → Prop} {m : mMem} {x0 : Nat} {x1 : Int32} {x2 : Int32} (hT : mWT m) (hOx0 : m.1 x0 = some (.inr 8) ∧ x0 ≠ 0)
    (h : (((x2 < 0) → (Q none m)) ∧ (¬ (x2 < 0) → ((((iF m x0 60) ≤ 0) → (Q none m)) ∧ (¬ ((iF m x0 60) ≤ 0) → ((mIn x2 3 = true) ∧ ((mIn x2 3 = true) ∧ (∀ (m_1 : mMem), m_1 = (mSetI m (64 * x0 + 39) (upd (m.2.2.1 (64 * x0 + 39)) x2.toNatClampNeg ((m.2.2.1 (64 * x0 + 39) x2.toNatClampNeg) + 1))) → (mIn x2 3 = true) ∧ (((¬ (m_1.2.2.1 (64 * x0 + 39) x2.toNatClampNeg) = (iF m_1 x0 55)) → ((mIn x2 3 = true) ∧ (mEv d 228 [.ref x0, .int x2, .int (m_1.2.2.1 (64 * x0 + 39) x2.toNatClampNeg)] m_1 (fun r m' => mEs d 226 b g226 (65, [some (.ref x0), some (.int x1), some (.int x2)], r.toList ++ [], m') Q)))) ∧ (¬ (¬ (m_1.2.2.1 (64 * x0 + 39) x2.toNatClampNeg) = (iF m_1 x0 55)) → (∀ (v_3 : Int32), v_3 = (x2 + (-1)) → mEs d 226 b g226 (14, [some (.ref x0), some (.int x1), some (.int v_3)], [], m_1) Q))))))))))) :
    mEs d 226 b g226 (14, [some (.ref x0), some (.int x1), some (.int x2)], [], m) Q := by
  refine e_iload_n (pc' := 15) (dAt D226 10 rfl) rfl rfl ?_
  refine e_if_lt (t := 99) (pc' := 18) (dAt D226 11 rfl) ⟨by decide, by decide⟩ rfl (fun c => ?_) (fun c => ?_)
  · replace h := h.1 c
    exact e_return (dAt D226 57 rfl) rfl h
  · replace h := h.2 c
    refine e_aload_n (pc' := 19) (dAt D226 12 rfl) rfl rfl ?_
    refine e_getfield (pc' := 22) (dAt D226 13 rfl) rfl rfl hOx0 (hT.int hOx0 60 (by decide)) ?_
    refine e_if_le (t := 99) (pc' := 25) (dAt D226 14 rfl) ⟨by decide, by decide⟩ rfl (fun c => ?_) (fun c => ?_)
    · replace h := h.1 c
      exact e_return (dAt D226 57 rfl) rfl h
    · replace h := h.2 c
      refine e_aload_n (pc' := 26) (dAt D226 15 rfl) rfl rfl ?_
      refine e_getfield (pc' := 29) (dAt D226 16 rfl) rfl rfl hOx0 (hT.own hOx0 38 rfl) ?_
      refine e_iload_n (pc' := 30) (dAt D226 17 rfl) rfl rfl ?_
      refine e_dup2 (pc' := 31) (dAt D226 18 rfl) rfl ⟨rfl, rfl⟩ ?_
      obtain ⟨f1, h⟩ := h
      refine e_iaload (pc' := 32) (dAt D226 19 rfl) rfl (hT.arr hOx0 38 rfl (by decide)).1 (Or.inl (hT.arr hOx0 38 rfl (by decide)).2) f1 rfl ?_
      refine e_iconst (pc' := 33) (v := 1) (dAt D226 20 rfl) rfl (by decide) ?_
      refine e_iadd (pc' := 34) (dAt D226 21 rfl) rfl ?_
      obtain ⟨f1, h⟩ := h
      replace h := h _ rfl
      refine e_iastore (pc' := 35) (dAt D226 22 rfl) rfl (hT.arr hOx0 38 rfl (by decide)).1 (hT.arr hOx0 38 rfl (by decide)).2 f1 (nar_i _) ?_
      refine wtI hT (fun hT_2 => ?_)
      refine e_aload_n (pc' := 36) (dAt D226 23 rfl) rfl rfl ?_
      refine e_getfield (pc' := 39) (dAt D226 24 rfl) rfl rfl hOx0 (hT_2.own hOx0 38 rfl) ?_
      refine e_iload_n (pc' := 40) (dAt D226 25 rfl) rfl rfl ?_
      obtain ⟨f1, h⟩ := h
      refine e_iaload (pc' := 41) (dAt D226 26 rfl) rfl (hT_2.arr hOx0 38 rfl (by decide)).1 (Or.inl (hT_2.arr hOx0 38 rfl (by decide)).2) f1 rfl ?_
      refine e_aload_n (pc' := 42) (dAt D226 27 rfl) rfl rfl ?_
      refine e_getfield (pc' := 45) (dAt D226 28 rfl) rfl rfl hOx0 (hT_2.int hOx0 55 (by decide)) ?_
      refine e_icmp_ne (t := 54) (pc' := 48) (dAt D226 29 rfl) ⟨by decide, by decide⟩ rfl (fun c => ?_) (fun c => ?_)
      · replace h := h.1 c
        refine e_aload_n (pc' := 55) (dAt D226 32 rfl) rfl rfl ?_
        refine e_iload_n (pc' := 56) (dAt D226 33 rfl) rfl rfl ?_
        refine e_aload_n (pc' := 57) (dAt D226 34 rfl) rfl rfl ?_
        refine e_getfield (pc' := 60) (dAt D226 35 rfl) rfl rfl hOx0 (hT_2.own hOx0 38 rfl) ?_
        refine e_iload_n (pc' := 61) (dAt D226 36 rfl) rfl rfl ?_
        obtain ⟨f1, h⟩ := h
        refine e_iaload (pc' := 62) (dAt D226 37 rfl) rfl (hT_2.arr hOx0 38 rfl (by decide)).1 (Or.inl (hT_2.arr hOx0 38 rfl (by decide)).2) f1 rfl ?_
        exact e_call2 h (dAt D226 38 rfl) (hi0 rfl) rfl G228 (by decide) rfl (Nat.le_of_ble_eq_true rfl) (kV hOx0 rfl rfl) rfl rfl
      · replace h := h.2 c
        replace h := h _ rfl
        refine e_iinc (pc' := 51) (dAt D226 30 rfl) rfl rfl (Nat.le_of_ble_eq_true rfl) (congrArg (_ + ·) (show Int32.ofInt (-1) = (-1 : Int32) by decide)) rfl ?_
        refine e_goto (t := 14) (dAt D226 31 rfl) ⟨by decide, by decide⟩ ?_
        exact h
-- PlaceNetsModel.choose.(I)V, from 65
set_option maxRecDepth 20000 in
theorem bk226_65 {d b : Nat} {Q : Option Value → mMem → Prop} {m : mMem} {x0 : Nat} {x1 : Int32} {x2 : Int32} {y0 : Int32} (hT : mWT m) (hOx0 : m.1 x0 = some (.inr 8) ∧ x0 ≠ 0)
    (h : (((y0 = 0) → (mEs d 226 b g226 (14, [some (.ref x0), some (.int x1), some (.int x2)], [], m) Q)) ∧ (¬ (y0 = 0) → (((¬ (x2 + 1) = (iF m x0 60)) → (∀ (v_1 : Int32), v_1 = (x2 + 1) → (mIn v_1 3 = true) ∧ (∀ (m_2 : mMem), m_2 = (mSetI m (64 * x0 + 39) (upd (m.2.2.1 (64 * x0 + 39)) v_1.toNatClampNeg ((-1)))) → mEs d 226 b g226 (14, [some (.ref x0), some (.int x1), some (.int v_1)], [], m_2) Q))) ∧ (¬ (¬ (x2 + 1) = (iF m x0 60)) → (mEv d 231 [.ref x0, .int x1] m (fun r m' => mEs d 226 b g226 (83, [some (.ref x0), some (.int x1), some (.int x2)], r.toList ++ [], m') Q))))))) :
    mEs d 226 b g226 (65, [some (.ref x0), some (.int x1), some (.int x2)], [.int y0], m) Q := by
  refine e_if_eq (t := 14) (pc' := 68) (dAt D226 39 rfl) ⟨by decide, by decide⟩ rfl (fun c => ?_) (fun c => ?_)
  · replace h := h.1 c
    exact h
  · replace h := h.2 c
    refine e_iload_n (pc' := 69) (dAt D226 40 rfl) rfl rfl ?_
    refine e_iconst (pc' := 70) (v := 1) (dAt D226 41 rfl) rfl (by decide) ?_
    refine e_iadd (pc' := 71) (dAt D226 42 rfl) rfl ?_
    refine e_aload_n (pc' := 72) (dAt D226 43 rfl) rfl rfl ?_
    refine e_getfield (pc' := 75) (dAt D226 44 rfl) rfl rfl hOx0 (hT.int hOx0 60 (by decide)) ?_
    refine e_icmp_ne (t := 86) (pc' := 78) (dAt D226 45 rfl) ⟨by decide, by decide⟩ rfl (fun c => ?_) (fun c => ?_)
    · replace h := h.1 c
      replace h := h _ rfl
      refine e_iinc (pc' := 89) (dAt D226 50 rfl) rfl rfl (Nat.le_of_ble_eq_true rfl) (congrArg (_ + ·) (show Int32.ofInt (1) = (1 : Int32) by decide)) rfl ?_
      refine e_aload_n (pc' := 90) (dAt D226 51 rfl) rfl rfl ?_
      refine e_getfield (pc' := 93) (dAt D226 52 rfl) rfl rfl hOx0 (hT.own hOx0 38 rfl) ?_
      refine e_iload_n (pc' := 94) (dAt D226 53 rfl) rfl rfl ?_
      refine e_iconst (pc' := 95) (v := (-1)) (dAt D226 54 rfl) rfl (by decide) ?_
      obtain ⟨f1, h⟩ := h
      replace h := h _ rfl
      refine e_iastore (pc' := 96) (dAt D226 55 rfl) rfl (hT.arr hOx0 38 rfl (by decide)).1 (hT.arr hOx0 38 rfl (by decide)).2 f1 (nar_i _) ?_
      refine wtI hT (fun hT_3 => ?_)
      refine e_goto (t := 14) (dAt D226 56 rfl) ⟨by decide, by decide⟩ ?_
      exact h
    · replace h := h.2 c
      refine e_aload_n (pc' := 79) (dAt D226 46 rfl) rfl rfl ?_
      refine e_iload_n (pc' := 80) (dAt D226 47 rfl) rfl rfl ?_
      exact e_call2 h (dAt D226 48 rfl) (hi0 rfl) rfl G231 (by decide) rfl (Nat.le_of_ble_eq_true rfl) (kV hOx0 rfl rfl) rfl rfl
-- PlaceNetsModel.choose.(I)V, from 83
set_option maxRecDepth 20000 in
theorem bk226_83 {d b : Nat} {Q : Option Value → mMem → Prop} {m : mMem} {x0 : Nat} {x1 : Int32} {x2 : Int32} (hT : mWT m) (hOx0 : m.1 x0 = some (.inr 8) ∧ x0 ≠ 0)
    (h : mEs d 226 b g226 (14, [some (.ref x0), some (.int x1), some (.int x2)], [], m) Q) :
    mEs d 226 b g226 (83, [some (.ref x0), some (.int x1), some (.int x2)], [], m) Q := by
  refine e_goto (t := 14) (dAt D226 49 rfl) ⟨by decide, by decide⟩ ?_
  exact h
-- PlaceNetsModel.layWants.(I)V, from 0
set_option maxRecDepth 20000 in
theorem bk227_0 {d b : Nat} {Q : Option Value → mMem → Prop} {m : mMem} {x0 : Nat} {x1 : Int32} {x2 : Option Value} {x3 : Option Value} (hT : mWT m) (hOx0 : m.1 x0 = some (.inr 8) ∧ x0 ≠ 0)
    (h : ∀ (m_1 : mMem), m_1 = (mSetF m x0 60 (.int 0)) → mEs d 227 b g227 (7, [some (.ref x0), some (.int x1), some (.int 0), x3], [], m_1) Q) :
    mEs d 227 b g227 (0, [some (.ref x0), some (.int x1), x2, x3], [], m) Q := by
  refine e_aload_n (pc' := 1) (dAt D227 0 rfl) rfl rfl ?_
  refine e_iconst (pc' := 2) (v := 0) (dAt D227 1 rfl) rfl (by decide) ?_
  replace h := h _ rfl
  refine e_putfield (pc' := 5) (dAt D227 2 rfl) rfl rfl hOx0 rfl rfl (fun e => by cases e) ?_
  refine wtF hT hOx0 (by decide) (fun hT_2 => ?_)
  refine e_iconst (pc' := 6) (v := 0) (dAt D227 3 rfl) rfl (by decide) ?_
  refine e_istore_n (pc' := 7) (dAt D227 4 rfl) rfl (Nat.le_of_ble_eq_true rfl) rfl ?_
  exact h
-- PlaceNetsModel.layWants.(I)V, from 7
set_option maxRecDepth 20000 in
theorem bk227_7 {d b : Nat} {Q : Option Value → mMem → Prop} {m : mMem} {x0 : Nat} {x1 : Int32} {x2 : Int32} {x3 : Option Value} (hT : mWT m) (hOx0 : m.1 x0 = some (.inr 8) ∧ x0 ≠ 0)
    (h : ((((iF m x0 6) ≤ x2) → (Q none m)) ∧ (¬ ((iF m x0 6) ≤ x2) → (mEs d 227 b g227 (17, [some (.ref x0), some (.int x1), some (.int x2), some (.int 0)], [], m) Q)))) :
    mEs d 227 b g227 (7, [some (.ref x0), some (.int x1), some (.int x2), x3], [], m) Q := by
  refine e_iload_n (pc' := 8) (dAt D227 5 rfl) rfl rfl ?_
  refine e_aload_n (pc' := 9) (dAt D227 6 rfl) rfl rfl ?_
  refine e_getfield (pc' := 12) (dAt D227 7 rfl) rfl rfl hOx0 (hT.int hOx0 6 (by decide)) ?_
  refine e_icmp_ge (t := 59) (pc' := 15) (dAt D227 8 rfl) ⟨by decide, by decide⟩ rfl (fun c => ?_) (fun c => ?_)
  · replace h := h.1 c
    exact e_return (dAt D227 33 rfl) rfl h
  · replace h := h.2 c
    refine e_iconst (pc' := 16) (v := 0) (dAt D227 9 rfl) rfl (by decide) ?_
    refine e_istore_n (pc' := 17) (dAt D227 10 rfl) rfl (Nat.le_of_ble_eq_true rfl) rfl ?_
    exact h
-- PlaceNetsModel.layWants.(I)V, from 17
set_option maxRecDepth 20000 in
theorem bk227_17 {d b : Nat} {Q : Option Value → mMem → Prop} {m : mMem} {x0 : Nat} {x1 : Int32} {x2 : Int32} {x3 : Int32} (hT : mWT m) (hOx0 : m.1 x0 = some (.inr 8) ∧ x0 ≠ 0)
    (h : mEv d 162 [.ref x0, .int x1, .int x2] m (fun r m' => mEs d 227 b g227 (24, [some (.ref x0), some (.int x1), some (.int x2), some (.int x3)], r.toList ++ [.int x3], m') Q)) :
    mEs d 227 b g227 (17, [some (.ref x0), some (.int x1), some (.int x2), some (.int x3)], [], m) Q := by
  refine e_iload_n (pc' := 18) (dAt D227 11 rfl) rfl rfl ?_
  refine e_aload_n (pc' := 19) (dAt D227 12 rfl) rfl rfl ?_
  refine e_iload_n (pc' := 20) (dAt D227 13 rfl) rfl rfl ?_
  refine e_iload_n (pc' := 21) (dAt D227 14 rfl) rfl rfl ?_
  exact e_call2 h (dAt D227 15 rfl) (hi0 rfl) rfl G162 (by decide) rfl (Nat.le_of_ble_eq_true rfl) (kV hOx0 rfl rfl) rfl rfl
-- PlaceNetsModel.layWants.(I)V, from 24
set_option maxRecDepth 20000 in
theorem bk227_24 {d b : Nat} {Q : Option Value → mMem → Prop} {m : mMem} {x0 : Nat} {x1 : Int32} {x2 : Int32} {x3 : Int32} {y0 : Int32} {y1 : Int32} (hT : mWT m) (hOx0 : m.1 x0 = some (.inr 8) ∧ x0 ≠ 0)
    (h : (((y1 ≤ y0) → (∀ (v_1 : Int32), v_1 = (x2 + 1) → mEs d 227 b g227 (7, [some (.ref x0), some (.int x1), some (.int v_1), some (.int x3)], [], m) Q)) ∧ (¬ (y1 ≤ y0) → ((mIn (iF m x0 60) 3 = true) ∧ (∀ (m_2 : mMem), m_2 = (mSetI m (64 * x0 + 38) (upd (m.2.2.1 (64 * x0 + 38)) (iF m x0 60).toNatClampNeg x2)) → ∀ (m_4 : mMem), m_4 = (mSetF m_2 x0 60 (.int ((iF m_2 x0 60) + 1))) → ∀ (v_6 : Int32), v_6 = (x3 + 1) → mEs d 227 b g227 (17, [some (.ref x0), some (.int x1), some (.int x2), some (.int v_6)], [], m_4) Q))))) :
    mEs d 227 b g227 (24, [some (.ref x0), some (.int x1), some (.int x2), some (.int x3)], [.int y1, .int y0], m) Q := by
  refine e_icmp_ge (t := 53) (pc' := 27) (dAt D227 16 rfl) ⟨by decide, by decide⟩ rfl (fun c => ?_) (fun c => ?_)
  · replace h := h.1 c
    replace h := h _ rfl
    refine e_iinc (pc' := 56) (dAt D227 31 rfl) rfl rfl (Nat.le_of_ble_eq_true rfl) (congrArg (_ + ·) (show Int32.ofInt (1) = (1 : Int32) by decide)) rfl ?_
    refine e_goto (t := 7) (dAt D227 32 rfl) ⟨by decide, by decide⟩ ?_
    exact h
  · replace h := h.2 c
    refine e_aload_n (pc' := 28) (dAt D227 17 rfl) rfl rfl ?_
    refine e_getfield (pc' := 31) (dAt D227 18 rfl) rfl rfl hOx0 (hT.own hOx0 37 rfl) ?_
    refine e_aload_n (pc' := 32) (dAt D227 19 rfl) rfl rfl ?_
    refine e_getfield (pc' := 35) (dAt D227 20 rfl) rfl rfl hOx0 (hT.int hOx0 60 (by decide)) ?_
    refine e_iload_n (pc' := 36) (dAt D227 21 rfl) rfl rfl ?_
    obtain ⟨f1, h⟩ := h
    replace h := h _ rfl
    refine e_iastore (pc' := 37) (dAt D227 22 rfl) rfl (hT.arr hOx0 37 rfl (by decide)).1 (hT.arr hOx0 37 rfl (by decide)).2 f1 (nar_i _) ?_
    refine wtI hT (fun hT_3 => ?_)
    refine e_aload_n (pc' := 38) (dAt D227 23 rfl) rfl rfl ?_
    refine e_dup (pc' := 39) (dAt D227 24 rfl) rfl rfl ?_
    refine e_getfield (pc' := 42) (dAt D227 25 rfl) rfl rfl hOx0 (hT_3.int hOx0 60 (by decide)) ?_
    refine e_iconst (pc' := 43) (v := 1) (dAt D227 26 rfl) rfl (by decide) ?_
    refine e_iadd (pc' := 44) (dAt D227 27 rfl) rfl ?_
    replace h := h _ rfl
    refine e_putfield (pc' := 47) (dAt D227 28 rfl) rfl rfl hOx0 rfl rfl (fun e => by cases e) ?_
    refine wtF hT_3 hOx0 (by decide) (fun hT_5 => ?_)
    replace h := h _ rfl
    refine e_iinc (pc' := 50) (dAt D227 29 rfl) rfl rfl (Nat.le_of_ble_eq_true rfl) (congrArg (_ + ·) (show Int32.ofInt (1) = (1 : Int32) by decide)) rfl ?_
    refine e_goto (t := 17) (dAt D227 30 rfl) ⟨by decide, by decide⟩ ?_
    exact h
-- PlaceNetsModel.canChoose.(II)Z, from 0
set_option maxRecDepth 20000 in
theorem bk228_0 {d b : Nat} {Q : Option Value → mMem → Prop} {m : mMem} {x0 : Nat} {x1 : Int32} {x2 : Int32} {x3 : Option Value} {x4 : Option Value} (hT : mWT m) (hOx0 : m.1 x0 = some (.inr 8) ∧ x0 ≠ 0)
    (h : (mIn x2 81 = true) ∧ ((mIn x1 3 = true) ∧ (((¬ (m.2.2.1 (64 * x0 + 35) x2.toNatClampNeg) = (m.2.2.1 (64 * x0 + 38) x1.toNatClampNeg)) → (mEs d 228 b g228 (91, [some (.ref x0), some (.int x1), some (.int x2), some (.int 0), some (.int 0)], [], m) Q)) ∧ (¬ (¬ (m.2.2.1 (64 * x0 + 35) x2.toNatClampNeg) = (m.2.2.1 (64 * x0 + 38) x1.toNatClampNeg)) → ((mIn x2 81 = true) ∧ ((((m.2.2.1 (64 * x0 + 36) x2.toNatClampNeg) = ((-1))) → (((x1 = 0) → (mEs d 228 b g228 (91, [some (.ref x0), some (.int x1), some (.int x2), some (.int 1), some (.int 0)], [], m) Q)) ∧ (¬ (x1 = 0) → ((mIn (x1 - 1) 3 = true) ∧ ((mIn x1 3 = true) ∧ (((¬ (m.2.2.1 (64 * x0 + 38) (x1 - 1).toNatClampNeg) = (m.2.2.1 (64 * x0 + 38) x1.toNatClampNeg)) → (mEs d 228 b g228 (91, [some (.ref x0), some (.int x1), some (.int x2), some (.int 1), some (.int 0)], [], m) Q)) ∧ (¬ (¬ (m.2.2.1 (64 * x0 + 38) (x1 - 1).toNatClampNeg) = (m.2.2.1 (64 * x0 + 38) x1.toNatClampNeg)) → ((mIn (x1 - 1) 3 = true) ∧ (((x2 ≤ (m.2.2.1 (64 * x0 + 39) (x1 - 1).toNatClampNeg)) → (mEs d 228 b g228 (91, [some (.ref x0), some (.int x1), some (.int x2), some (.int 0), some (.int 0)], [], m) Q)) ∧ (¬ (x2 ≤ (m.2.2.1 (64 * x0 + 39) (x1 - 1).toNatClampNeg)) → (mEs d 228 b g228 (91, [some (.ref x0), some (.int x1), some (.int x2), some (.int 1), some (.int 0)], [], m) Q))))))))))) ∧ (¬ ((m.2.2.1 (64 * x0 + 36) x2.toNatClampNeg) = ((-1))) → ((mIn x2 81 = true) ∧ ((mIn (m.2.2.1 (64 * x0 + 36) x2.toNatClampNeg) 31 = true) ∧ (((¬ (m.2.2.1 (64 * x0 + 32) (m.2.2.1 (64 * x0 + 36) x2.toNatClampNeg).toNatClampNeg) = 0) → (mEs d 228 b g228 (91, [some (.ref x0), some (.int x1), some (.int x2), some (.int 0), some (.int 0)], [], m) Q)) ∧ (¬ (¬ (m.2.2.1 (64 * x0 + 32) (m.2.2.1 (64 * x0 + 36) x2.toNatClampNeg).toNatClampNeg) = 0) → (((x1 = 0) → (mEs d 228 b g228 (91, [some (.ref x0), some (.int x1), some (.int x2), some (.int 1), some (.int 0)], [], m) Q)) ∧ (¬ (x1 = 0) → ((mIn (x1 - 1) 3 = true) ∧ ((mIn x1 3 = true) ∧ (((¬ (m.2.2.1 (64 * x0 + 38) (x1 - 1).toNatClampNeg) = (m.2.2.1 (64 * x0 + 38) x1.toNatClampNeg)) → (mEs d 228 b g228 (91, [some (.ref x0), some (.int x1), some (.int x2), some (.int 1), some (.int 0)], [], m) Q)) ∧ (¬ (¬ (m.2.2.1 (64 * x0 + 38) (x1 - 1).toNatClampNeg) = (m.2.2.1 (64 * x0 + 38) x1.toNatClampNeg)) → ((mIn (x1 - 1) 3 = true) ∧ (((x2 ≤ (m.2.2.1 (64 * x0 + 39) (x1 - 1).toNatClampNeg)) → (mEs d 228 b g228 (91, [some (.ref x0), some (.int x1), some (.int x2), some (.int 0), some (.int 0)], [], m) Q)) ∧ (¬ (x2 ≤ (m.2.2.1 (64 * x0 + 39) (x1 - 1).toNatClampNeg)) → (mEs d 228 b g228 (91, [some (.ref x0), some (.int x1), some (.int x2), some (.int 1), some (.int 0)], [], m) Q))))))))))))))))))))) :
    mEs d 228 b g228 (0, [some (.ref x0), some (.int x1), some (.int x2), x3, x4], [], m) Q := by
  refine e_aload_n (pc' := 1) (dAt D228 0 rfl) rfl rfl ?_
  refine e_getfield (pc' := 4) (dAt D228 1 rfl) rfl rfl hOx0 (hT.own hOx0 34 rfl) ?_
  refine e_iload_n (pc' := 5) (dAt D228 2 rfl) rfl rfl ?_
  obtain ⟨f1, h⟩ := h
  refine e_iaload (pc' := 6) (dAt D228 3 rfl) rfl (hT.arr hOx0 34 rfl (by decide)).1 (Or.inl (hT.arr hOx0 34 rfl (by decide)).2) f1 rfl ?_
  refine e_aload_n (pc' := 7) (dAt D228 4 rfl) rfl rfl ?_
  refine e_getfield (pc' := 10) (dAt D228 5 rfl) rfl rfl hOx0 (hT.own hOx0 37 rfl) ?_
  refine e_iload_n (pc' := 11) (dAt D228 6 rfl) rfl rfl ?_
  obtain ⟨f1, h⟩ := h
  refine e_iaload (pc' := 12) (dAt D228 7 rfl) rfl (hT.arr hOx0 37 rfl (by decide)).1 (Or.inl (hT.arr hOx0 37 rfl (by decide)).2) f1 rfl ?_
  refine e_icmp_ne (t := 43) (pc' := 15) (dAt D228 8 rfl) ⟨by decide, by decide⟩ rfl (fun c => ?_) (fun c => ?_)
  · replace h := h.1 c
    refine e_iconst (pc' := 44) (v := 0) (dAt D228 25 rfl) rfl (by decide) ?_
    refine e_istore_n (pc' := 45) (dAt D228 26 rfl) rfl (Nat.le_of_ble_eq_true rfl) rfl ?_
    refine e_iload_n (pc' := 46) (dAt D228 27 rfl) rfl rfl ?_
    refine e_if_eq (t := 86) (pc' := 49) (dAt D228 28 rfl) ⟨by decide, by decide⟩ rfl (fun c => ?_) (fun c => absurd (by decide) c)
    refine e_iconst (pc' := 87) (v := 0) (dAt D228 52 rfl) rfl (by decide) ?_
    refine e_istore_n (pc' := 88) (dAt D228 53 rfl) rfl (Nat.le_of_ble_eq_true rfl) rfl ?_
    refine e_iconst (pc' := 89) (v := 0) (dAt D228 54 rfl) rfl (by decide) ?_
    refine e_istore (pc' := 91) (dAt D228 55 rfl) rfl (Nat.le_of_ble_eq_true rfl) rfl ?_
    exact h
  · replace h := h.2 c
    refine e_aload_n (pc' := 16) (dAt D228 9 rfl) rfl rfl ?_
    refine e_getfield (pc' := 19) (dAt D228 10 rfl) rfl rfl hOx0 (hT.own hOx0 35 rfl) ?_
    refine e_iload_n (pc' := 20) (dAt D228 11 rfl) rfl rfl ?_
    obtain ⟨f1, h⟩ := h
    refine e_iaload (pc' := 21) (dAt D228 12 rfl) rfl (hT.arr hOx0 35 rfl (by decide)).1 (Or.inl (hT.arr hOx0 35 rfl (by decide)).2) f1 rfl ?_
    refine e_iconst (pc' := 22) (v := (-1)) (dAt D228 13 rfl) rfl (by decide) ?_
    refine e_icmp_eq (t := 39) (pc' := 25) (dAt D228 14 rfl) ⟨by decide, by decide⟩ rfl (fun c => ?_) (fun c => ?_)
    · replace h := h.1 c
      refine e_iconst (pc' := 40) (v := 1) (dAt D228 23 rfl) rfl (by decide) ?_
      refine e_goto (t := 44) (dAt D228 24 rfl) ⟨by decide, by decide⟩ ?_
      refine e_istore_n (pc' := 45) (dAt D228 26 rfl) rfl (Nat.le_of_ble_eq_true rfl) rfl ?_
      refine e_iload_n (pc' := 46) (dAt D228 27 rfl) rfl rfl ?_
      refine e_if_eq (t := 86) (pc' := 49) (dAt D228 28 rfl) ⟨by decide, by decide⟩ rfl (fun c => absurd c (by decide)) (fun c => ?_)
      refine e_iload_n (pc' := 50) (dAt D228 29 rfl) rfl rfl ?_
      refine e_if_eq (t := 82) (pc' := 53) (dAt D228 30 rfl) ⟨by decide, by decide⟩ rfl (fun c => ?_) (fun c => ?_)
      · replace h := h.1 c
        refine e_iconst (pc' := 83) (v := 1) (dAt D228 50 rfl) rfl (by decide) ?_
        refine e_goto (t := 87) (dAt D228 51 rfl) ⟨by decide, by decide⟩ ?_
        refine e_istore_n (pc' := 88) (dAt D228 53 rfl) rfl (Nat.le_of_ble_eq_true rfl) rfl ?_
        refine e_iconst (pc' := 89) (v := 0) (dAt D228 54 rfl) rfl (by decide) ?_
        refine e_istore (pc' := 91) (dAt D228 55 rfl) rfl (Nat.le_of_ble_eq_true rfl) rfl ?_
        exact h
      · replace h := h.2 c
        refine e_aload_n (pc' := 54) (dAt D228 31 rfl) rfl rfl ?_
        refine e_getfield (pc' := 57) (dAt D228 32 rfl) rfl rfl hOx0 (hT.own hOx0 37 rfl) ?_
        refine e_iload_n (pc' := 58) (dAt D228 33 rfl) rfl rfl ?_
        refine e_iconst (pc' := 59) (v := 1) (dAt D228 34 rfl) rfl (by decide) ?_
        refine e_isub (pc' := 60) (dAt D228 35 rfl) rfl ?_
        obtain ⟨f1, h⟩ := h
        refine e_iaload (pc' := 61) (dAt D228 36 rfl) rfl (hT.arr hOx0 37 rfl (by decide)).1 (Or.inl (hT.arr hOx0 37 rfl (by decide)).2) f1 rfl ?_
        refine e_aload_n (pc' := 62) (dAt D228 37 rfl) rfl rfl ?_
        refine e_getfield (pc' := 65) (dAt D228 38 rfl) rfl rfl hOx0 (hT.own hOx0 37 rfl) ?_
        refine e_iload_n (pc' := 66) (dAt D228 39 rfl) rfl rfl ?_
        obtain ⟨f1, h⟩ := h
        refine e_iaload (pc' := 67) (dAt D228 40 rfl) rfl (hT.arr hOx0 37 rfl (by decide)).1 (Or.inl (hT.arr hOx0 37 rfl (by decide)).2) f1 rfl ?_
        refine e_icmp_ne (t := 82) (pc' := 70) (dAt D228 41 rfl) ⟨by decide, by decide⟩ rfl (fun c => ?_) (fun c => ?_)
        · replace h := h.1 c
          refine e_iconst (pc' := 83) (v := 1) (dAt D228 50 rfl) rfl (by decide) ?_
          refine e_goto (t := 87) (dAt D228 51 rfl) ⟨by decide, by decide⟩ ?_
          refine e_istore_n (pc' := 88) (dAt D228 53 rfl) rfl (Nat.le_of_ble_eq_true rfl) rfl ?_
          refine e_iconst (pc' := 89) (v := 0) (dAt D228 54 rfl) rfl (by decide) ?_
          refine e_istore (pc' := 91) (dAt D228 55 rfl) rfl (Nat.le_of_ble_eq_true rfl) rfl ?_
          exact h
        · replace h := h.2 c
          refine e_aload_n (pc' := 71) (dAt D228 42 rfl) rfl rfl ?_
          refine e_getfield (pc' := 74) (dAt D228 43 rfl) rfl rfl hOx0 (hT.own hOx0 38 rfl) ?_
          refine e_iload_n (pc' := 75) (dAt D228 44 rfl) rfl rfl ?_
          refine e_iconst (pc' := 76) (v := 1) (dAt D228 45 rfl) rfl (by decide) ?_
          refine e_isub (pc' := 77) (dAt D228 46 rfl) rfl ?_
          obtain ⟨f1, h⟩ := h
          refine e_iaload (pc' := 78) (dAt D228 47 rfl) rfl (hT.arr hOx0 38 rfl (by decide)).1 (Or.inl (hT.arr hOx0 38 rfl (by decide)).2) f1 rfl ?_
          refine e_iload_n (pc' := 79) (dAt D228 48 rfl) rfl rfl ?_
          refine e_icmp_ge (t := 86) (pc' := 82) (dAt D228 49 rfl) ⟨by decide, by decide⟩ rfl (fun c => ?_) (fun c => ?_)
          · replace h := h.1 c
            refine e_iconst (pc' := 87) (v := 0) (dAt D228 52 rfl) rfl (by decide) ?_
            refine e_istore_n (pc' := 88) (dAt D228 53 rfl) rfl (Nat.le_of_ble_eq_true rfl) rfl ?_
            refine e_iconst (pc' := 89) (v := 0) (dAt D228 54 rfl) rfl (by decide) ?_
            refine e_istore (pc' := 91) (dAt D228 55 rfl) rfl (Nat.le_of_ble_eq_true rfl) rfl ?_
            exact h
          · replace h := h.2 c
            refine e_iconst (pc' := 83) (v := 1) (dAt D228 50 rfl) rfl (by decide) ?_
            refine e_goto (t := 87) (dAt D228 51 rfl) ⟨by decide, by decide⟩ ?_
            refine e_istore_n (pc' := 88) (dAt D228 53 rfl) rfl (Nat.le_of_ble_eq_true rfl) rfl ?_
            refine e_iconst (pc' := 89) (v := 0) (dAt D228 54 rfl) rfl (by decide) ?_
            refine e_istore (pc' := 91) (dAt D228 55 rfl) rfl (Nat.le_of_ble_eq_true rfl) rfl ?_
            exact h
    · replace h := h.2 c
      refine e_aload_n (pc' := 26) (dAt D228 15 rfl) rfl rfl ?_
      refine e_getfield (pc' := 29) (dAt D228 16 rfl) rfl rfl hOx0 (hT.own hOx0 31 rfl) ?_
      refine e_aload_n (pc' := 30) (dAt D228 17 rfl) rfl rfl ?_
      refine e_getfield (pc' := 33) (dAt D228 18 rfl) rfl rfl hOx0 (hT.own hOx0 35 rfl) ?_
      refine e_iload_n (pc' := 34) (dAt D228 19 rfl) rfl rfl ?_
      obtain ⟨f1, h⟩ := h
      refine e_iaload (pc' := 35) (dAt D228 20 rfl) rfl (hT.arr hOx0 35 rfl (by decide)).1 (Or.inl (hT.arr hOx0 35 rfl (by decide)).2) f1 rfl ?_
      obtain ⟨f1, h⟩ := h
      refine e_zaload (pc' := 36) (dAt D228 21 rfl) rfl (hT.arr hOx0 31 rfl (by decide)).1 (Or.inl (hT.arr hOx0 31 rfl (by decide)).2) f1 rfl ?_
      refine e_if_ne (t := 43) (pc' := 39) (dAt D228 22 rfl) ⟨by decide, by decide⟩ rfl (fun c => ?_) (fun c => ?_)
      · replace h := h.1 c
        refine e_iconst (pc' := 44) (v := 0) (dAt D228 25 rfl) rfl (by decide) ?_
        refine e_istore_n (pc' := 45) (dAt D228 26 rfl) rfl (Nat.le_of_ble_eq_true rfl) rfl ?_
        refine e_iload_n (pc' := 46) (dAt D228 27 rfl) rfl rfl ?_
        refine e_if_eq (t := 86) (pc' := 49) (dAt D228 28 rfl) ⟨by decide, by decide⟩ rfl (fun c => ?_) (fun c => absurd (by decide) c)
        refine e_iconst (pc' := 87) (v := 0) (dAt D228 52 rfl) rfl (by decide) ?_
        refine e_istore_n (pc' := 88) (dAt D228 53 rfl) rfl (Nat.le_of_ble_eq_true rfl) rfl ?_
        refine e_iconst (pc' := 89) (v := 0) (dAt D228 54 rfl) rfl (by decide) ?_
        refine e_istore (pc' := 91) (dAt D228 55 rfl) rfl (Nat.le_of_ble_eq_true rfl) rfl ?_
        exact h
      · replace h := h.2 c
        refine e_iconst (pc' := 40) (v := 1) (dAt D228 23 rfl) rfl (by decide) ?_
        refine e_goto (t := 44) (dAt D228 24 rfl) ⟨by decide, by decide⟩ ?_
        refine e_istore_n (pc' := 45) (dAt D228 26 rfl) rfl (Nat.le_of_ble_eq_true rfl) rfl ?_
        refine e_iload_n (pc' := 46) (dAt D228 27 rfl) rfl rfl ?_
        refine e_if_eq (t := 86) (pc' := 49) (dAt D228 28 rfl) ⟨by decide, by decide⟩ rfl (fun c => absurd c (by decide)) (fun c => ?_)
        refine e_iload_n (pc' := 50) (dAt D228 29 rfl) rfl rfl ?_
        refine e_if_eq (t := 82) (pc' := 53) (dAt D228 30 rfl) ⟨by decide, by decide⟩ rfl (fun c => ?_) (fun c => ?_)
        · replace h := h.1 c
          refine e_iconst (pc' := 83) (v := 1) (dAt D228 50 rfl) rfl (by decide) ?_
          refine e_goto (t := 87) (dAt D228 51 rfl) ⟨by decide, by decide⟩ ?_
          refine e_istore_n (pc' := 88) (dAt D228 53 rfl) rfl (Nat.le_of_ble_eq_true rfl) rfl ?_
          refine e_iconst (pc' := 89) (v := 0) (dAt D228 54 rfl) rfl (by decide) ?_
          refine e_istore (pc' := 91) (dAt D228 55 rfl) rfl (Nat.le_of_ble_eq_true rfl) rfl ?_
          exact h
        · replace h := h.2 c
          refine e_aload_n (pc' := 54) (dAt D228 31 rfl) rfl rfl ?_
          refine e_getfield (pc' := 57) (dAt D228 32 rfl) rfl rfl hOx0 (hT.own hOx0 37 rfl) ?_
          refine e_iload_n (pc' := 58) (dAt D228 33 rfl) rfl rfl ?_
          refine e_iconst (pc' := 59) (v := 1) (dAt D228 34 rfl) rfl (by decide) ?_
          refine e_isub (pc' := 60) (dAt D228 35 rfl) rfl ?_
          obtain ⟨f1, h⟩ := h
          refine e_iaload (pc' := 61) (dAt D228 36 rfl) rfl (hT.arr hOx0 37 rfl (by decide)).1 (Or.inl (hT.arr hOx0 37 rfl (by decide)).2) f1 rfl ?_
          refine e_aload_n (pc' := 62) (dAt D228 37 rfl) rfl rfl ?_
          refine e_getfield (pc' := 65) (dAt D228 38 rfl) rfl rfl hOx0 (hT.own hOx0 37 rfl) ?_
          refine e_iload_n (pc' := 66) (dAt D228 39 rfl) rfl rfl ?_
          obtain ⟨f1, h⟩ := h
          refine e_iaload (pc' := 67) (dAt D228 40 rfl) rfl (hT.arr hOx0 37 rfl (by decide)).1 (Or.inl (hT.arr hOx0 37 rfl (by decide)).2) f1 rfl ?_
          refine e_icmp_ne (t := 82) (pc' := 70) (dAt D228 41 rfl) ⟨by decide, by decide⟩ rfl (fun c => ?_) (fun c => ?_)
          · replace h := h.1 c
            refine e_iconst (pc' := 83) (v := 1) (dAt D228 50 rfl) rfl (by decide) ?_
            refine e_goto (t := 87) (dAt D228 51 rfl) ⟨by decide, by decide⟩ ?_
            refine e_istore_n (pc' := 88) (dAt D228 53 rfl) rfl (Nat.le_of_ble_eq_true rfl) rfl ?_
            refine e_iconst (pc' := 89) (v := 0) (dAt D228 54 rfl) rfl (by decide) ?_
            refine e_istore (pc' := 91) (dAt D228 55 rfl) rfl (Nat.le_of_ble_eq_true rfl) rfl ?_
            exact h
          · replace h := h.2 c
            refine e_aload_n (pc' := 71) (dAt D228 42 rfl) rfl rfl ?_
            refine e_getfield (pc' := 74) (dAt D228 43 rfl) rfl rfl hOx0 (hT.own hOx0 38 rfl) ?_
            refine e_iload_n (pc' := 75) (dAt D228 44 rfl) rfl rfl ?_
            refine e_iconst (pc' := 76) (v := 1) (dAt D228 45 rfl) rfl (by decide) ?_
            refine e_isub (pc' := 77) (dAt D228 46 rfl) rfl ?_
            obtain ⟨f1, h⟩ := h
            refine e_iaload (pc' := 78) (dAt D228 47 rfl) rfl (hT.arr hOx0 38 rfl (by decide)).1 (Or.inl (hT.arr hOx0 38 rfl (by decide)).2) f1 rfl ?_
            refine e_iload_n (pc' := 79) (dAt D228 48 rfl) rfl rfl ?_
            refine e_icmp_ge (t := 86) (pc' := 82) (dAt D228 49 rfl) ⟨by decide, by decide⟩ rfl (fun c => ?_) (fun c => ?_)
            · replace h := h.1 c
              refine e_iconst (pc' := 87) (v := 0) (dAt D228 52 rfl) rfl (by decide) ?_
              refine e_istore_n (pc' := 88) (dAt D228 53 rfl) rfl (Nat.le_of_ble_eq_true rfl) rfl ?_
              refine e_iconst (pc' := 89) (v := 0) (dAt D228 54 rfl) rfl (by decide) ?_
              refine e_istore (pc' := 91) (dAt D228 55 rfl) rfl (Nat.le_of_ble_eq_true rfl) rfl ?_
              exact h
            · replace h := h.2 c
              refine e_iconst (pc' := 83) (v := 1) (dAt D228 50 rfl) rfl (by decide) ?_
              refine e_goto (t := 87) (dAt D228 51 rfl) ⟨by decide, by decide⟩ ?_
              refine e_istore_n (pc' := 88) (dAt D228 53 rfl) rfl (Nat.le_of_ble_eq_true rfl) rfl ?_
              refine e_iconst (pc' := 89) (v := 0) (dAt D228 54 rfl) rfl (by decide) ?_
              refine e_istore (pc' := 91) (dAt D228 55 rfl) rfl (Nat.le_of_ble_eq_true rfl) rfl ?_
              exact h
-- PlaceNetsModel.canChoose.(II)Z, from 91
set_option maxRecDepth 20000 in
theorem bk228_91 {d b : Nat} {Q : Option Value → mMem → Prop} {m : mMem} {x0 : Nat} {x1 : Int32} {x2 : Int32} {x3 : Int32} {x4 : Int32} (hT : mWT m) (hOx0 : m.1 x0 = some (.inr 8) ∧ x0 ≠ 0)
    (h : (((x1 ≤ x4) → ((x3 = 0 ∨ x3 = 1) ∧ (Q (some (.int x3)) m))) ∧ (¬ (x1 ≤ x4) → (((x3 = 0) → ((x3 = 0 ∨ x3 = 1) ∧ (Q (some (.int x3)) m))) ∧ (¬ (x3 = 0) → ((mIn x4 3 = true) ∧ (mEv d 229 [.ref x0, .int (m.2.2.1 (64 * x0 + 39) x4.toNatClampNeg), .int x2] m (fun r m' => mEs d 228 b g228 (113, [some (.ref x0), some (.int x1), some (.int x2), some (.int x3), some (.int x4)], r.toList ++ [], m') Q)))))))) :
    mEs d 228 b g228 (91, [some (.ref x0), some (.int x1), some (.int x2), some (.int x3), some (.int x4)], [], m) Q := by
  refine e_iload (pc' := 93) (dAt D228 56 rfl) rfl rfl ?_
  refine e_iload_n (pc' := 94) (dAt D228 57 rfl) rfl rfl ?_
  refine e_icmp_ge (t := 120) (pc' := 97) (dAt D228 58 rfl) ⟨by decide, by decide⟩ rfl (fun c => ?_) (fun c => ?_)
  · replace h := h.1 c
    refine e_iload_n (pc' := 121) (dAt D228 71 rfl) rfl rfl ?_
    obtain ⟨f1, h⟩ := h
    exact e_ireturn (dAt D228 72 rfl) rfl ⟨nb01 f1, fun e => by cases e⟩ h
  · replace h := h.2 c
    refine e_iload_n (pc' := 98) (dAt D228 59 rfl) rfl rfl ?_
    refine e_if_eq (t := 120) (pc' := 101) (dAt D228 60 rfl) ⟨by decide, by decide⟩ rfl (fun c => ?_) (fun c => ?_)
    · replace h := h.1 c
      refine e_iload_n (pc' := 121) (dAt D228 71 rfl) rfl rfl ?_
      obtain ⟨f1, h⟩ := h
      exact e_ireturn (dAt D228 72 rfl) rfl ⟨nb01 f1, fun e => by cases e⟩ h
    · replace h := h.2 c
      refine e_aload_n (pc' := 102) (dAt D228 61 rfl) rfl rfl ?_
      refine e_aload_n (pc' := 103) (dAt D228 62 rfl) rfl rfl ?_
      refine e_getfield (pc' := 106) (dAt D228 63 rfl) rfl rfl hOx0 (hT.own hOx0 38 rfl) ?_
      refine e_iload (pc' := 108) (dAt D228 64 rfl) rfl rfl ?_
      obtain ⟨f1, h⟩ := h
      refine e_iaload (pc' := 109) (dAt D228 65 rfl) rfl (hT.arr hOx0 38 rfl (by decide)).1 (Or.inl (hT.arr hOx0 38 rfl (by decide)).2) f1 rfl ?_
      refine e_iload_n (pc' := 110) (dAt D228 66 rfl) rfl rfl ?_
      exact e_call2 h (dAt D228 67 rfl) (hi0 rfl) rfl G229 (by decide) rfl (Nat.le_of_ble_eq_true rfl) (kV hOx0 rfl rfl) rfl rfl
-- PlaceNetsModel.canChoose.(II)Z, from 113
set_option maxRecDepth 20000 in
theorem bk228_113 {d b : Nat} {Q : Option Value → mMem → Prop} {m : mMem} {x0 : Nat} {x1 : Int32} {x2 : Int32} {x3 : Int32} {x4 : Int32} {y0 : Int32} (hT : mWT m) (hOx0 : m.1 x0 = some (.inr 8) ∧ x0 ≠ 0)
    (h : ∀ (v_1 : Int32), v_1 = (x4 + 1) → mEs d 228 b g228 (91, [some (.ref x0), some (.int x1), some (.int x2), some (.int y0), some (.int v_1)], [], m) Q) :
    mEs d 228 b g228 (113, [some (.ref x0), some (.int x1), some (.int x2), some (.int x3), some (.int x4)], [.int y0], m) Q := by
  refine e_istore_n (pc' := 114) (dAt D228 68 rfl) rfl (Nat.le_of_ble_eq_true rfl) rfl ?_
  replace h := h _ rfl
  refine e_iinc (pc' := 117) (dAt D228 69 rfl) rfl rfl (Nat.le_of_ble_eq_true rfl) (congrArg (_ + ·) (show Int32.ofInt (1) = (1 : Int32) by decide)) rfl ?_
  refine e_goto (t := 91) (dAt D228 70 rfl) ⟨by decide, by decide⟩ ?_
  exact h
-- PlaceNetsModel.canHold.(II)Z, from 0
set_option maxRecDepth 20000 in
theorem bk229_0 {d b : Nat} {Q : Option Value → mMem → Prop} {m : mMem} {x0 : Nat} {x1 : Int32} {x2 : Int32} {x3 : Option Value} {x4 : Option Value} {x5 : Option Value} {x6 : Option Value} {x7 : Option Value} (hT : mWT m) (hOx0 : m.1 x0 = some (.inr 8) ∧ x0 ≠ 0)
    (h : mEv d 230 [.ref x0, .int x1] m (fun r m' => mEs d 229 b g229 (5, [some (.ref x0), some (.int x1), some (.int x2), x3, x4, x5, x6, x7], r.toList ++ [], m') Q)) :
    mEs d 229 b g229 (0, [some (.ref x0), some (.int x1), some (.int x2), x3, x4, x5, x6, x7], [], m) Q := by
  refine e_aload_n (pc' := 1) (dAt D229 0 rfl) rfl rfl ?_
  refine e_iload_n (pc' := 2) (dAt D229 1 rfl) rfl rfl ?_
  exact e_call2 h (dAt D229 2 rfl) (hi0 rfl) rfl G230 (by decide) rfl (Nat.le_of_ble_eq_true rfl) (kV hOx0 rfl rfl) rfl rfl
-- PlaceNetsModel.canHold.(II)Z, from 5
set_option maxRecDepth 20000 in
theorem bk229_5 {d b : Nat} {Q : Option Value → mMem → Prop} {m : mMem} {x0 : Nat} {x1 : Int32} {x2 : Int32} {x3 : Option Value} {x4 : Option Value} {x5 : Option Value} {x6 : Option Value} {x7 : Option Value} {y0 : Int32} (hT : mWT m) (hOx0 : m.1 x0 = some (.inr 8) ∧ x0 ≠ 0)
    (h : mEv d 230 [.ref x0, .int x2] m (fun r m' => mEs d 229 b g229 (11, [some (.ref x0), some (.int x1), some (.int x2), some (.int y0), x4, x5, x6, x7], r.toList ++ [], m') Q)) :
    mEs d 229 b g229 (5, [some (.ref x0), some (.int x1), some (.int x2), x3, x4, x5, x6, x7], [.int y0], m) Q := by
  refine e_istore_n (pc' := 6) (dAt D229 3 rfl) rfl (Nat.le_of_ble_eq_true rfl) rfl ?_
  refine e_aload_n (pc' := 7) (dAt D229 4 rfl) rfl rfl ?_
  refine e_iload_n (pc' := 8) (dAt D229 5 rfl) rfl rfl ?_
  exact e_call2 h (dAt D229 6 rfl) (hi0 rfl) rfl G230 (by decide) rfl (Nat.le_of_ble_eq_true rfl) (kV hOx0 rfl rfl) rfl rfl
-- PlaceNetsModel.canHold.(II)Z, from 11
set_option maxRecDepth 20000 in
theorem bk229_11 {d b : Nat} {Q : Option Value → mMem → Prop} {m : mMem} {x0 : Nat} {x1 : Int32} {x2 : Int32} {x3 : Int32} {x4 : Option Value} {x5 : Option Value} {x6 : Option Value} {x7 : Option Value} {y0 : Int32} (hT : mWT m) (hOx0 : m.1 x0 = some (.inr 8) ∧ x0 ≠ 0)
    (h : (((x1 = x2) → (∀ (v_1 : Int32), v_1 = (x3 ||| y0) → mEs d 229 b g229 (57, [some (.ref x0), some (.int x1), some (.int x2), some (.int x3), some (.int y0), some (.int 0), some (.int v_1), some (.int 0)], [], m) Q)) ∧ (¬ (x1 = x2) → ((mIn x1 81 = true) ∧ (((¬ ((m.2.2.1 (64 * x0 + 37) x1.toNatClampNeg) &&& y0) = 0) → (∀ (v_2 : Int32), v_2 = (x3 ||| y0) → mEs d 229 b g229 (57, [some (.ref x0), some (.int x1), some (.int x2), some (.int x3), some (.int y0), some (.int 0), some (.int v_2), some (.int 0)], [], m) Q)) ∧ (¬ (¬ ((m.2.2.1 (64 * x0 + 37) x1.toNatClampNeg) &&& y0) = 0) → ((mIn x2 81 = true) ∧ (((¬ ((m.2.2.1 (64 * x0 + 37) x2.toNatClampNeg) &&& x3) = 0) → (∀ (v_3 : Int32), v_3 = (x3 ||| y0) → mEs d 229 b g229 (57, [some (.ref x0), some (.int x1), some (.int x2), some (.int x3), some (.int y0), some (.int 0), some (.int v_3), some (.int 0)], [], m) Q)) ∧ (¬ (¬ ((m.2.2.1 (64 * x0 + 37) x2.toNatClampNeg) &&& x3) = 0) → (∀ (v_4 : Int32), v_4 = (x3 ||| y0) → mEs d 229 b g229 (57, [some (.ref x0), some (.int x1), some (.int x2), some (.int x3), some (.int y0), some (.int 1), some (.int v_4), some (.int 0)], [], m) Q)))))))))) :
    mEs d 229 b g229 (11, [some (.ref x0), some (.int x1), some (.int x2), some (.int x3), x4, x5, x6, x7], [.int y0], m) Q := by
  refine e_istore (pc' := 13) (dAt D229 7 rfl) rfl (Nat.le_of_ble_eq_true rfl) rfl ?_
  refine e_iload_n (pc' := 14) (dAt D229 8 rfl) rfl rfl ?_
  refine e_iload_n (pc' := 15) (dAt D229 9 rfl) rfl rfl ?_
  refine e_icmp_eq (t := 45) (pc' := 18) (dAt D229 10 rfl) ⟨by decide, by decide⟩ rfl (fun c => ?_) (fun c => ?_)
  · replace h := h.1 c
    refine e_iconst (pc' := 46) (v := 0) (dAt D229 27 rfl) rfl (by decide) ?_
    refine e_istore (pc' := 48) (dAt D229 28 rfl) rfl (Nat.le_of_ble_eq_true rfl) rfl ?_
    refine e_iload_n (pc' := 49) (dAt D229 29 rfl) rfl rfl ?_
    refine e_iload (pc' := 51) (dAt D229 30 rfl) rfl rfl ?_
    refine e_ior (pc' := 52) (dAt D229 31 rfl) rfl ?_
    replace h := h _ rfl
    refine e_istore (pc' := 54) (dAt D229 32 rfl) rfl (Nat.le_of_ble_eq_true rfl) rfl ?_
    refine e_iconst (pc' := 55) (v := 0) (dAt D229 33 rfl) rfl (by decide) ?_
    refine e_istore (pc' := 57) (dAt D229 34 rfl) rfl (Nat.le_of_ble_eq_true rfl) rfl ?_
    exact h
  · replace h := h.2 c
    refine e_aload_n (pc' := 19) (dAt D229 11 rfl) rfl rfl ?_
    refine e_getfield (pc' := 22) (dAt D229 12 rfl) rfl rfl hOx0 (hT.own hOx0 36 rfl) ?_
    refine e_iload_n (pc' := 23) (dAt D229 13 rfl) rfl rfl ?_
    obtain ⟨f1, h⟩ := h
    refine e_iaload (pc' := 24) (dAt D229 14 rfl) rfl (hT.arr hOx0 36 rfl (by decide)).1 (Or.inl (hT.arr hOx0 36 rfl (by decide)).2) f1 rfl ?_
    refine e_iload (pc' := 26) (dAt D229 15 rfl) rfl rfl ?_
    refine e_iand (pc' := 27) (dAt D229 16 rfl) rfl ?_
    refine e_if_ne (t := 45) (pc' := 30) (dAt D229 17 rfl) ⟨by decide, by decide⟩ rfl (fun c => ?_) (fun c => ?_)
    · replace h := h.1 c
      refine e_iconst (pc' := 46) (v := 0) (dAt D229 27 rfl) rfl (by decide) ?_
      refine e_istore (pc' := 48) (dAt D229 28 rfl) rfl (Nat.le_of_ble_eq_true rfl) rfl ?_
      refine e_iload_n (pc' := 49) (dAt D229 29 rfl) rfl rfl ?_
      refine e_iload (pc' := 51) (dAt D229 30 rfl) rfl rfl ?_
      refine e_ior (pc' := 52) (dAt D229 31 rfl) rfl ?_
      replace h := h _ rfl
      refine e_istore (pc' := 54) (dAt D229 32 rfl) rfl (Nat.le_of_ble_eq_true rfl) rfl ?_
      refine e_iconst (pc' := 55) (v := 0) (dAt D229 33 rfl) rfl (by decide) ?_
      refine e_istore (pc' := 57) (dAt D229 34 rfl) rfl (Nat.le_of_ble_eq_true rfl) rfl ?_
      exact h
    · replace h := h.2 c
      refine e_aload_n (pc' := 31) (dAt D229 18 rfl) rfl rfl ?_
      refine e_getfield (pc' := 34) (dAt D229 19 rfl) rfl rfl hOx0 (hT.own hOx0 36 rfl) ?_
      refine e_iload_n (pc' := 35) (dAt D229 20 rfl) rfl rfl ?_
      obtain ⟨f1, h⟩ := h
      refine e_iaload (pc' := 36) (dAt D229 21 rfl) rfl (hT.arr hOx0 36 rfl (by decide)).1 (Or.inl (hT.arr hOx0 36 rfl (by decide)).2) f1 rfl ?_
      refine e_iload_n (pc' := 37) (dAt D229 22 rfl) rfl rfl ?_
      refine e_iand (pc' := 38) (dAt D229 23 rfl) rfl ?_
      refine e_if_ne (t := 45) (pc' := 41) (dAt D229 24 rfl) ⟨by decide, by decide⟩ rfl (fun c => ?_) (fun c => ?_)
      · replace h := h.1 c
        refine e_iconst (pc' := 46) (v := 0) (dAt D229 27 rfl) rfl (by decide) ?_
        refine e_istore (pc' := 48) (dAt D229 28 rfl) rfl (Nat.le_of_ble_eq_true rfl) rfl ?_
        refine e_iload_n (pc' := 49) (dAt D229 29 rfl) rfl rfl ?_
        refine e_iload (pc' := 51) (dAt D229 30 rfl) rfl rfl ?_
        refine e_ior (pc' := 52) (dAt D229 31 rfl) rfl ?_
        replace h := h _ rfl
        refine e_istore (pc' := 54) (dAt D229 32 rfl) rfl (Nat.le_of_ble_eq_true rfl) rfl ?_
        refine e_iconst (pc' := 55) (v := 0) (dAt D229 33 rfl) rfl (by decide) ?_
        refine e_istore (pc' := 57) (dAt D229 34 rfl) rfl (Nat.le_of_ble_eq_true rfl) rfl ?_
        exact h
      · replace h := h.2 c
        refine e_iconst (pc' := 42) (v := 1) (dAt D229 25 rfl) rfl (by decide) ?_
        refine e_goto (t := 46) (dAt D229 26 rfl) ⟨by decide, by decide⟩ ?_
        refine e_istore (pc' := 48) (dAt D229 28 rfl) rfl (Nat.le_of_ble_eq_true rfl) rfl ?_
        refine e_iload_n (pc' := 49) (dAt D229 29 rfl) rfl rfl ?_
        refine e_iload (pc' := 51) (dAt D229 30 rfl) rfl rfl ?_
        refine e_ior (pc' := 52) (dAt D229 31 rfl) rfl ?_
        replace h := h _ rfl
        refine e_istore (pc' := 54) (dAt D229 32 rfl) rfl (Nat.le_of_ble_eq_true rfl) rfl ?_
        refine e_iconst (pc' := 55) (v := 0) (dAt D229 33 rfl) rfl (by decide) ?_
        refine e_istore (pc' := 57) (dAt D229 34 rfl) rfl (Nat.le_of_ble_eq_true rfl) rfl ?_
        exact h
-- PlaceNetsModel.canHold.(II)Z, from 57
set_option maxRecDepth 20000 in
theorem bk229_57 {d b : Nat} {Q : Option Value → mMem → Prop} {m : mMem} {x0 : Nat} {x1 : Int32} {x2 : Int32} {x3 : Int32} {x4 : Int32} {x5 : Int32} {x6 : Int32} {x7 : Int32} (hT : mWT m) (hOx0 : m.1 x0 = some (.inr 8) ∧ x0 ≠ 0)
    (h : ((((iF m x0 47) ≤ x7) → ((x5 = 0 ∨ x5 = 1) ∧ (Q (some (.int x5)) m))) ∧ (¬ ((iF m x0 47) ≤ x7) → (((x5 = 0) → ((x5 = 0 ∨ x5 = 1) ∧ (Q (some (.int x5)) m))) ∧ (¬ (x5 = 0) → (((((x6 >>> (x7 &&& 31)) &&& 1) = 0) → (∀ (v_1 : Int32), v_1 = (x7 + 1) → mEs d 229 b g229 (57, [some (.ref x0), some (.int x1), some (.int x2), some (.int x3), some (.int x4), some (.int 1), some (.int x6), some (.int v_1)], [], m) Q)) ∧ (¬ (((x6 >>> (x7 &&& 31)) &&& 1) = 0) → ((mIn x7 31 = true) ∧ (((¬ ((m.2.2.1 (64 * x0 + 34) x7.toNatClampNeg) &&& x6) = 0) → (∀ (v_2 : Int32), v_2 = (x7 + 1) → mEs d 229 b g229 (57, [some (.ref x0), some (.int x1), some (.int x2), some (.int x3), some (.int x4), some (.int 0), some (.int x6), some (.int v_2)], [], m) Q)) ∧ (¬ (¬ ((m.2.2.1 (64 * x0 + 34) x7.toNatClampNeg) &&& x6) = 0) → (∀ (v_3 : Int32), v_3 = (x7 + 1) → mEs d 229 b g229 (57, [some (.ref x0), some (.int x1), some (.int x2), some (.int x3), some (.int x4), some (.int 1), some (.int x6), some (.int v_3)], [], m) Q))))))))))) :
    mEs d 229 b g229 (57, [some (.ref x0), some (.int x1), some (.int x2), some (.int x3), some (.int x4), some (.int x5), some (.int x6), some (.int x7)], [], m) Q := by
  refine e_iload (pc' := 59) (dAt D229 35 rfl) rfl rfl ?_
  refine e_aload_n (pc' := 60) (dAt D229 36 rfl) rfl rfl ?_
  refine e_getfield (pc' := 63) (dAt D229 37 rfl) rfl rfl hOx0 (hT.int hOx0 47 (by decide)) ?_
  refine e_icmp_ge (t := 107) (pc' := 66) (dAt D229 38 rfl) ⟨by decide, by decide⟩ rfl (fun c => ?_) (fun c => ?_)
  · replace h := h.1 c
    refine e_iload (pc' := 109) (dAt D229 60 rfl) rfl rfl ?_
    obtain ⟨f1, h⟩ := h
    exact e_ireturn (dAt D229 61 rfl) rfl ⟨nb01 f1, fun e => by cases e⟩ h
  · replace h := h.2 c
    refine e_iload (pc' := 68) (dAt D229 39 rfl) rfl rfl ?_
    refine e_if_eq (t := 107) (pc' := 71) (dAt D229 40 rfl) ⟨by decide, by decide⟩ rfl (fun c => ?_) (fun c => ?_)
    · replace h := h.1 c
      refine e_iload (pc' := 109) (dAt D229 60 rfl) rfl rfl ?_
      obtain ⟨f1, h⟩ := h
      exact e_ireturn (dAt D229 61 rfl) rfl ⟨nb01 f1, fun e => by cases e⟩ h
    · replace h := h.2 c
      refine e_iload (pc' := 73) (dAt D229 41 rfl) rfl rfl ?_
      refine e_iload (pc' := 75) (dAt D229 42 rfl) rfl rfl ?_
      refine e_ishr (pc' := 76) (dAt D229 43 rfl) rfl ?_
      refine e_iconst (pc' := 77) (v := 1) (dAt D229 44 rfl) rfl (by decide) ?_
      refine e_iand (pc' := 78) (dAt D229 45 rfl) rfl ?_
      refine e_if_eq (t := 94) (pc' := 81) (dAt D229 46 rfl) ⟨by decide, by decide⟩ rfl (fun c => ?_) (fun c => ?_)
      · replace h := h.1 c
        refine e_iconst (pc' := 95) (v := 1) (dAt D229 54 rfl) rfl (by decide) ?_
        refine e_goto (t := 99) (dAt D229 55 rfl) ⟨by decide, by decide⟩ ?_
        refine e_istore (pc' := 101) (dAt D229 57 rfl) rfl (Nat.le_of_ble_eq_true rfl) rfl ?_
        replace h := h _ rfl
        refine e_iinc (pc' := 104) (dAt D229 58 rfl) rfl rfl (Nat.le_of_ble_eq_true rfl) (congrArg (_ + ·) (show Int32.ofInt (1) = (1 : Int32) by decide)) rfl ?_
        refine e_goto (t := 57) (dAt D229 59 rfl) ⟨by decide, by decide⟩ ?_
        exact h
      · replace h := h.2 c
        refine e_aload_n (pc' := 82) (dAt D229 47 rfl) rfl rfl ?_
        refine e_getfield (pc' := 85) (dAt D229 48 rfl) rfl rfl hOx0 (hT.own hOx0 33 rfl) ?_
        refine e_iload (pc' := 87) (dAt D229 49 rfl) rfl rfl ?_
        obtain ⟨f1, h⟩ := h
        refine e_iaload (pc' := 88) (dAt D229 50 rfl) rfl (hT.arr hOx0 33 rfl (by decide)).1 (Or.inl (hT.arr hOx0 33 rfl (by decide)).2) f1 rfl ?_
        refine e_iload (pc' := 90) (dAt D229 51 rfl) rfl rfl ?_
        refine e_iand (pc' := 91) (dAt D229 52 rfl) rfl ?_
        refine e_if_ne (t := 98) (pc' := 94) (dAt D229 53 rfl) ⟨by decide, by decide⟩ rfl (fun c => ?_) (fun c => ?_)
        · replace h := h.1 c
          refine e_iconst (pc' := 99) (v := 0) (dAt D229 56 rfl) rfl (by decide) ?_
          refine e_istore (pc' := 101) (dAt D229 57 rfl) rfl (Nat.le_of_ble_eq_true rfl) rfl ?_
          replace h := h _ rfl
          refine e_iinc (pc' := 104) (dAt D229 58 rfl) rfl rfl (Nat.le_of_ble_eq_true rfl) (congrArg (_ + ·) (show Int32.ofInt (1) = (1 : Int32) by decide)) rfl ?_
          refine e_goto (t := 57) (dAt D229 59 rfl) ⟨by decide, by decide⟩ ?_
          exact h
        · replace h := h.2 c
          refine e_iconst (pc' := 95) (v := 1) (dAt D229 54 rfl) rfl (by decide) ?_
          refine e_goto (t := 99) (dAt D229 55 rfl) ⟨by decide, by decide⟩ ?_
          refine e_istore (pc' := 101) (dAt D229 57 rfl) rfl (Nat.le_of_ble_eq_true rfl) rfl ?_
          replace h := h _ rfl
          refine e_iinc (pc' := 104) (dAt D229 58 rfl) rfl rfl (Nat.le_of_ble_eq_true rfl) (congrArg (_ + ·) (show Int32.ofInt (1) = (1 : Int32) by decide)) rfl ?_
          refine e_goto (t := 57) (dAt D229 59 rfl) ⟨by decide, by decide⟩ ?_
          exact h
-- PlaceNetsModel.pastOf.(I)I, from 0
set_option maxRecDepth 20000 in
theorem bk230_0 {d b : Nat} {Q : Option Value → mMem → Prop} {m : mMem} {x0 : Nat} {x1 : Int32} (hT : mWT m) (hOx0 : m.1 x0 = some (.inr 8) ∧ x0 ≠ 0)
    (h : (mIn x1 81 = true) ∧ (((¬ (m.2.2.1 (64 * x0 + 36) x1.toNatClampNeg) = ((-1))) → ((mIn x1 81 = true) ∧ ((mIn (m.2.2.1 (64 * x0 + 36) x1.toNatClampNeg) 31 = true) ∧ (Q (some (.int (m.2.2.1 (64 * x0 + 31) (m.2.2.1 (64 * x0 + 36) x1.toNatClampNeg).toNatClampNeg))) m)))) ∧ (¬ (¬ (m.2.2.1 (64 * x0 + 36) x1.toNatClampNeg) = ((-1))) → (Q (some (.int 0)) m)))) :
    mEs d 230 b g230 (0, [some (.ref x0), some (.int x1)], [], m) Q := by
  refine e_aload_n (pc' := 1) (dAt D230 0 rfl) rfl rfl ?_
  refine e_getfield (pc' := 4) (dAt D230 1 rfl) rfl rfl hOx0 (hT.own hOx0 35 rfl) ?_
  refine e_iload_n (pc' := 5) (dAt D230 2 rfl) rfl rfl ?_
  obtain ⟨f1, h⟩ := h
  refine e_iaload (pc' := 6) (dAt D230 3 rfl) rfl (hT.arr hOx0 35 rfl (by decide)).1 (Or.inl (hT.arr hOx0 35 rfl (by decide)).2) f1 rfl ?_
  refine e_iconst (pc' := 7) (v := (-1)) (dAt D230 4 rfl) rfl (by decide) ?_
  refine e_icmp_ne (t := 14) (pc' := 10) (dAt D230 5 rfl) ⟨by decide, by decide⟩ rfl (fun c => ?_) (fun c => ?_)
  · replace h := h.1 c
    refine e_aload_n (pc' := 15) (dAt D230 8 rfl) rfl rfl ?_
    refine e_getfield (pc' := 18) (dAt D230 9 rfl) rfl rfl hOx0 (hT.own hOx0 30 rfl) ?_
    refine e_aload_n (pc' := 19) (dAt D230 10 rfl) rfl rfl ?_
    refine e_getfield (pc' := 22) (dAt D230 11 rfl) rfl rfl hOx0 (hT.own hOx0 35 rfl) ?_
    refine e_iload_n (pc' := 23) (dAt D230 12 rfl) rfl rfl ?_
    obtain ⟨f1, h⟩ := h
    refine e_iaload (pc' := 24) (dAt D230 13 rfl) rfl (hT.arr hOx0 35 rfl (by decide)).1 (Or.inl (hT.arr hOx0 35 rfl (by decide)).2) f1 rfl ?_
    obtain ⟨f1, h⟩ := h
    refine e_iaload (pc' := 25) (dAt D230 14 rfl) rfl (hT.arr hOx0 30 rfl (by decide)).1 (Or.inl (hT.arr hOx0 30 rfl (by decide)).2) f1 rfl ?_
    exact e_ireturn (dAt D230 15 rfl) rfl ⟨rfl, fun e => by cases e⟩ h
  · replace h := h.2 c
    refine e_iconst (pc' := 11) (v := 0) (dAt D230 6 rfl) rfl (by decide) ?_
    refine e_goto (t := 25) (dAt D230 7 rfl) ⟨by decide, by decide⟩ ?_
    exact e_ireturn (dAt D230 15 rfl) rfl ⟨rfl, fun e => by cases e⟩ h
-- PlaceNetsModel.look.(I)V, from 0
set_option maxRecDepth 20000 in
theorem bk231_0 {d b : Nat} {Q : Option Value → mMem → Prop} {m : mMem} {x0 : Nat} {x1 : Int32} {x2 : Option Value} {x3 : Option Value} {x4 : Option Value} (hT : mWT m) (hOx0 : m.1 x0 = some (.inr 8) ∧ x0 ≠ 0)
    (h : mEv d 232 [.ref x0] m (fun r m' => mEs d 231 b g231 (4, [some (.ref x0), some (.int x1), x2, x3, x4], r.toList ++ [], m') Q)) :
    mEs d 231 b g231 (0, [some (.ref x0), some (.int x1), x2, x3, x4], [], m) Q := by
  refine e_aload_n (pc' := 1) (dAt D231 0 rfl) rfl rfl ?_
  exact e_call2 h (dAt D231 1 rfl) (hi0 rfl) rfl G232 (by decide) rfl (Nat.le_of_ble_eq_true rfl) (kV hOx0 rfl rfl) rfl rfl
-- PlaceNetsModel.look.(I)V, from 4
set_option maxRecDepth 20000 in
theorem bk231_4 {d b : Nat} {Q : Option Value → mMem → Prop} {m : mMem} {x0 : Nat} {x1 : Int32} {x2 : Option Value} {x3 : Option Value} {x4 : Option Value} (hT : mWT m) (hOx0 : m.1 x0 = some (.inr 8) ∧ x0 ≠ 0)
    (h : mEs d 231 b g231 (8, [some (.ref x0), some (.int x1), some (.int 0), some (.int 0), x4], [], m) Q) :
    mEs d 231 b g231 (4, [some (.ref x0), some (.int x1), x2, x3, x4], [], m) Q := by
  refine e_iconst (pc' := 5) (v := 0) (dAt D231 2 rfl) rfl (by decide) ?_
  refine e_istore_n (pc' := 6) (dAt D231 3 rfl) rfl (Nat.le_of_ble_eq_true rfl) rfl ?_
  refine e_iconst (pc' := 7) (v := 0) (dAt D231 4 rfl) rfl (by decide) ?_
  refine e_istore_n (pc' := 8) (dAt D231 5 rfl) rfl (Nat.le_of_ble_eq_true rfl) rfl ?_
  exact h
-- PlaceNetsModel.look.(I)V, from 8
set_option maxRecDepth 20000 in
theorem bk231_8 {d b : Nat} {Q : Option Value → mMem → Prop} {m : mMem} {x0 : Nat} {x1 : Int32} {x2 : Int32} {x3 : Int32} {x4 : Option Value} (hT : mWT m) (hOx0 : m.1 x0 = some (.inr 8) ∧ x0 ≠ 0)
    (h : ((((iF m x0 60) ≤ x3) → (mEv d 171 [.int x2] m (fun r m' => mEs d 231 b g231 (39, [some (.ref x0), some (.int x1), some (.int x2), some (.int x3), x4], r.toList ++ [], m') Q))) ∧ (¬ ((iF m x0 60) ≤ x3) → ((mIn x3 3 = true) ∧ (mEv d 230 [.ref x0, .int (m.2.2.1 (64 * x0 + 39) x3.toNatClampNeg)] m (fun r m' => mEs d 231 b g231 (27, [some (.ref x0), some (.int x1), some (.int x2), some (.int x3), x4], r.toList ++ [.int x2], m') Q)))))) :
    mEs d 231 b g231 (8, [some (.ref x0), some (.int x1), some (.int x2), some (.int x3), x4], [], m) Q := by
  refine e_iload_n (pc' := 9) (dAt D231 6 rfl) rfl rfl ?_
  refine e_aload_n (pc' := 10) (dAt D231 7 rfl) rfl rfl ?_
  refine e_getfield (pc' := 13) (dAt D231 8 rfl) rfl rfl hOx0 (hT.int hOx0 60 (by decide)) ?_
  refine e_icmp_ge (t := 35) (pc' := 16) (dAt D231 9 rfl) ⟨by decide, by decide⟩ rfl (fun c => ?_) (fun c => ?_)
  · replace h := h.1 c
    refine e_iload_n (pc' := 36) (dAt D231 21 rfl) rfl rfl ?_
    exact e_call2 h (dAt D231 22 rfl) (hi2 rfl) rfl G171 (by decide) rfl (Nat.le_of_ble_eq_true rfl) rfl rfl rfl
  · replace h := h.2 c
    refine e_iload_n (pc' := 17) (dAt D231 10 rfl) rfl rfl ?_
    refine e_aload_n (pc' := 18) (dAt D231 11 rfl) rfl rfl ?_
    refine e_aload_n (pc' := 19) (dAt D231 12 rfl) rfl rfl ?_
    refine e_getfield (pc' := 22) (dAt D231 13 rfl) rfl rfl hOx0 (hT.own hOx0 38 rfl) ?_
    refine e_iload_n (pc' := 23) (dAt D231 14 rfl) rfl rfl ?_
    obtain ⟨f1, h⟩ := h
    refine e_iaload (pc' := 24) (dAt D231 15 rfl) rfl (hT.arr hOx0 38 rfl (by decide)).1 (Or.inl (hT.arr hOx0 38 rfl (by decide)).2) f1 rfl ?_
    exact e_call2 h (dAt D231 16 rfl) (hi0 rfl) rfl G230 (by decide) rfl (Nat.le_of_ble_eq_true rfl) (kV hOx0 rfl rfl) rfl rfl
-- PlaceNetsModel.look.(I)V, from 27
set_option maxRecDepth 20000 in
theorem bk231_27 {d b : Nat} {Q : Option Value → mMem → Prop} {m : mMem} {x0 : Nat} {x1 : Int32} {x2 : Int32} {x3 : Int32} {x4 : Option Value} {y0 : Int32} {y1 : Int32} (hT : mWT m) (hOx0 : m.1 x0 = some (.inr 8) ∧ x0 ≠ 0)
    (h : ∀ (v_1 : Int32), v_1 = (y0 ||| y1) → ∀ (v_2 : Int32), v_2 = (x3 + 1) → mEs d 231 b g231 (8, [some (.ref x0), some (.int x1), some (.int v_1), some (.int v_2), x4], [], m) Q) :
    mEs d 231 b g231 (27, [some (.ref x0), some (.int x1), some (.int x2), some (.int x3), x4], [.int y1, .int y0], m) Q := by
  refine e_ior (pc' := 28) (dAt D231 17 rfl) rfl ?_
  replace h := h _ rfl
  refine e_istore_n (pc' := 29) (dAt D231 18 rfl) rfl (Nat.le_of_ble_eq_true rfl) rfl ?_
  replace h := h _ rfl
  refine e_iinc (pc' := 32) (dAt D231 19 rfl) rfl rfl (Nat.le_of_ble_eq_true rfl) (congrArg (_ + ·) (show Int32.ofInt (1) = (1 : Int32) by decide)) rfl ?_
  refine e_goto (t := 8) (dAt D231 20 rfl) ⟨by decide, by decide⟩ ?_
  exact h
-- PlaceNetsModel.look.(I)V, from 39
set_option maxRecDepth 20000 in
theorem bk231_39 {d b : Nat} {Q : Option Value → mMem → Prop} {m : mMem} {x0 : Nat} {x1 : Int32} {x2 : Int32} {x3 : Int32} {x4 : Option Value} {y0 : Int32} (hT : mWT m) (hOx0 : m.1 x0 = some (.inr 8) ∧ x0 ≠ 0)
    (h : ∀ (v_1 : Int32), v_1 = (y0 + 1) → ((((iF m x0 64) < v_1) → (Q none m)) ∧ (¬ ((iF m x0 64) < v_1) → (((¬ v_1 = (iF m x0 64)) → (mEv d 234 [.ref x0, .int x1] m (fun r m' => mEs d 231 b g231 (78, [some (.ref x0), some (.int x1), some (.int x2), some (.int v_1), x4], r.toList ++ [], m') Q))) ∧ (¬ (¬ v_1 = (iF m x0 64)) → (((¬ (iF m x0 63) = x1) → (Q none m)) ∧ (¬ (¬ (iF m x0 63) = x1) → (mEv d 233 [.ref x0] m (fun r m' => mEs d 231 b g231 (70, [some (.ref x0), some (.int x1), some (.int x2), some (.int v_1), x4], r.toList ++ [], m') Q))))))))) :
    mEs d 231 b g231 (39, [some (.ref x0), some (.int x1), some (.int x2), some (.int x3), x4], [.int y0], m) Q := by
  refine e_iconst (pc' := 40) (v := 1) (dAt D231 23 rfl) rfl (by decide) ?_
  refine e_iadd (pc' := 41) (dAt D231 24 rfl) rfl ?_
  replace h := h _ rfl
  refine e_istore_n (pc' := 42) (dAt D231 25 rfl) rfl (Nat.le_of_ble_eq_true rfl) rfl ?_
  refine e_iload_n (pc' := 43) (dAt D231 26 rfl) rfl rfl ?_
  refine e_aload_n (pc' := 44) (dAt D231 27 rfl) rfl rfl ?_
  refine e_getfield (pc' := 47) (dAt D231 28 rfl) rfl rfl hOx0 (hT.int hOx0 64 (by decide)) ?_
  refine e_icmp_gt (t := 81) (pc' := 50) (dAt D231 29 rfl) ⟨by decide, by decide⟩ rfl (fun c => ?_) (fun c => ?_)
  · replace h := h.1 c
    exact e_return (dAt D231 45 rfl) rfl h
  · replace h := h.2 c
    refine e_iload_n (pc' := 51) (dAt D231 30 rfl) rfl rfl ?_
    refine e_aload_n (pc' := 52) (dAt D231 31 rfl) rfl rfl ?_
    refine e_getfield (pc' := 55) (dAt D231 32 rfl) rfl rfl hOx0 (hT.int hOx0 64 (by decide)) ?_
    refine e_icmp_ne (t := 73) (pc' := 58) (dAt D231 33 rfl) ⟨by decide, by decide⟩ rfl (fun c => ?_) (fun c => ?_)
    · replace h := h.1 c
      refine e_aload_n (pc' := 74) (dAt D231 41 rfl) rfl rfl ?_
      refine e_iload_n (pc' := 75) (dAt D231 42 rfl) rfl rfl ?_
      exact e_call2 h (dAt D231 43 rfl) (hi0 rfl) rfl G234 (by decide) rfl (Nat.le_of_ble_eq_true rfl) (kV hOx0 rfl rfl) rfl rfl
    · replace h := h.2 c
      refine e_aload_n (pc' := 59) (dAt D231 34 rfl) rfl rfl ?_
      refine e_getfield (pc' := 62) (dAt D231 35 rfl) rfl rfl hOx0 (hT.int hOx0 63 (by decide)) ?_
      refine e_iload_n (pc' := 63) (dAt D231 36 rfl) rfl rfl ?_
      refine e_icmp_ne (t := 81) (pc' := 66) (dAt D231 37 rfl) ⟨by decide, by decide⟩ rfl (fun c => ?_) (fun c => ?_)
      · replace h := h.1 c
        exact e_return (dAt D231 45 rfl) rfl h
      · replace h := h.2 c
        refine e_aload_n (pc' := 67) (dAt D231 38 rfl) rfl rfl ?_
        exact e_call2 h (dAt D231 39 rfl) (hi0 rfl) rfl G233 (by decide) rfl (Nat.le_of_ble_eq_true rfl) (kV hOx0 rfl rfl) rfl rfl
-- PlaceNetsModel.look.(I)V, from 70
set_option maxRecDepth 20000 in
theorem bk231_70 {d b : Nat} {Q : Option Value → mMem → Prop} {m : mMem} {x0 : Nat} {x1 : Int32} {x2 : Int32} {x3 : Int32} {x4 : Option Value} {y0 : Int32} (hT : mWT m) (hOx0 : m.1 x0 = some (.inr 8) ∧ x0 ≠ 0)
    (h : (((y0 = 0) → (Q none m)) ∧ (¬ (y0 = 0) → (mEv d 234 [.ref x0, .int x1] m (fun r m' => mEs d 231 b g231 (78, [some (.ref x0), some (.int x1), some (.int x2), some (.int x3), x4], r.toList ++ [], m') Q))))) :
    mEs d 231 b g231 (70, [some (.ref x0), some (.int x1), some (.int x2), some (.int x3), x4], [.int y0], m) Q := by
  refine e_if_eq (t := 81) (pc' := 73) (dAt D231 40 rfl) ⟨by decide, by decide⟩ rfl (fun c => ?_) (fun c => ?_)
  · replace h := h.1 c
    exact e_return (dAt D231 45 rfl) rfl h
  · replace h := h.2 c
    refine e_aload_n (pc' := 74) (dAt D231 41 rfl) rfl rfl ?_
    refine e_iload_n (pc' := 75) (dAt D231 42 rfl) rfl rfl ?_
    exact e_call2 h (dAt D231 43 rfl) (hi0 rfl) rfl G234 (by decide) rfl (Nat.le_of_ble_eq_true rfl) (kV hOx0 rfl rfl) rfl rfl
-- PlaceNetsModel.look.(I)V, from 78
set_option maxRecDepth 20000 in
theorem bk231_78 {d b : Nat} {Q : Option Value → mMem → Prop} {m : mMem} {x0 : Nat} {x1 : Int32} {x2 : Int32} {x3 : Int32} {x4 : Option Value} {y0 : Int32} (hT : mWT m) (hOx0 : m.1 x0 = some (.inr 8) ∧ x0 ≠ 0)
    (h : (((y0 = 0) → (∀ (m_1 : mMem), m_1 = (mSetF m x0 64 (.int x3)) → ∀ (m_3 : mMem), m_3 = (mSetF m_1 x0 63 (.int x1)) → mEs d 231 b g231 (95, [some (.ref x0), some (.int x1), some (.int x2), some (.int x3), some (.int 0)], [], m_3) Q)) ∧ (¬ (y0 = 0) → (Q none m)))) :
    mEs d 231 b g231 (78, [some (.ref x0), some (.int x1), some (.int x2), some (.int x3), x4], [.int y0], m) Q := by
  refine e_if_eq (t := 82) (pc' := 81) (dAt D231 44 rfl) ⟨by decide, by decide⟩ rfl (fun c => ?_) (fun c => ?_)
  · replace h := h.1 c
    refine e_aload_n (pc' := 83) (dAt D231 46 rfl) rfl rfl ?_
    refine e_iload_n (pc' := 84) (dAt D231 47 rfl) rfl rfl ?_
    replace h := h _ rfl
    refine e_putfield (pc' := 87) (dAt D231 48 rfl) rfl rfl hOx0 rfl rfl (fun e => by cases e) ?_
    refine wtF hT hOx0 (by decide) (fun hT_2 => ?_)
    refine e_aload_n (pc' := 88) (dAt D231 49 rfl) rfl rfl ?_
    refine e_iload_n (pc' := 89) (dAt D231 50 rfl) rfl rfl ?_
    replace h := h _ rfl
    refine e_putfield (pc' := 92) (dAt D231 51 rfl) rfl rfl hOx0 rfl rfl (fun e => by cases e) ?_
    refine wtF hT_2 hOx0 (by decide) (fun hT_4 => ?_)
    refine e_iconst (pc' := 93) (v := 0) (dAt D231 52 rfl) rfl (by decide) ?_
    refine e_istore (pc' := 95) (dAt D231 53 rfl) rfl (Nat.le_of_ble_eq_true rfl) rfl ?_
    exact h
  · replace h := h.2 c
    exact e_return (dAt D231 45 rfl) rfl h
-- PlaceNetsModel.look.(I)V, from 95
set_option maxRecDepth 20000 in
theorem bk231_95 {d b : Nat} {Q : Option Value → mMem → Prop} {m : mMem} {x0 : Nat} {x1 : Int32} {x2 : Int32} {x3 : Int32} {x4 : Int32} (hT : mWT m) (hOx0 : m.1 x0 = some (.inr 8) ∧ x0 ≠ 0)
    (h : ((((iF m x0 60) ≤ x4) → (Q none m)) ∧ (¬ ((iF m x0 60) ≤ x4) → ((mIn x4 3 = true) ∧ ((mIn x4 3 = true) ∧ (∀ (m_1 : mMem), m_1 = (mSetI m (64 * x0 + 40) (upd (m.2.2.1 (64 * x0 + 40)) x4.toNatClampNeg (m.2.2.1 (64 * x0 + 41) x4.toNatClampNeg))) → ∀ (v_3 : Int32), v_3 = (x4 + 1) → mEs d 231 b g231 (95, [some (.ref x0), some (.int x1), some (.int x2), some (.int x3), some (.int v_3)], [], m_1) Q)))))) :
    mEs d 231 b g231 (95, [some (.ref x0), some (.int x1), some (.int x2), some (.int x3), some (.int x4)], [], m) Q := by
  refine e_iload (pc' := 97) (dAt D231 54 rfl) rfl rfl ?_
  refine e_aload_n (pc' := 98) (dAt D231 55 rfl) rfl rfl ?_
  refine e_getfield (pc' := 101) (dAt D231 56 rfl) rfl rfl hOx0 (hT.int hOx0 60 (by decide)) ?_
  refine e_icmp_ge (t := 124) (pc' := 104) (dAt D231 57 rfl) ⟨by decide, by decide⟩ rfl (fun c => ?_) (fun c => ?_)
  · replace h := h.1 c
    exact e_return (dAt D231 68 rfl) rfl h
  · replace h := h.2 c
    refine e_aload_n (pc' := 105) (dAt D231 58 rfl) rfl rfl ?_
    refine e_getfield (pc' := 108) (dAt D231 59 rfl) rfl rfl hOx0 (hT.own hOx0 39 rfl) ?_
    refine e_iload (pc' := 110) (dAt D231 60 rfl) rfl rfl ?_
    refine e_aload_n (pc' := 111) (dAt D231 61 rfl) rfl rfl ?_
    refine e_getfield (pc' := 114) (dAt D231 62 rfl) rfl rfl hOx0 (hT.own hOx0 40 rfl) ?_
    refine e_iload (pc' := 116) (dAt D231 63 rfl) rfl rfl ?_
    obtain ⟨f1, h⟩ := h
    refine e_iaload (pc' := 117) (dAt D231 64 rfl) rfl (hT.arr hOx0 40 rfl (by decide)).1 (Or.inl (hT.arr hOx0 40 rfl (by decide)).2) f1 rfl ?_
    obtain ⟨f1, h⟩ := h
    replace h := h _ rfl
    refine e_iastore (pc' := 118) (dAt D231 65 rfl) rfl (hT.arr hOx0 39 rfl (by decide)).1 (hT.arr hOx0 39 rfl (by decide)).2 f1 (nar_i _) ?_
    refine wtI hT (fun hT_2 => ?_)
    replace h := h _ rfl
    refine e_iinc (pc' := 121) (dAt D231 66 rfl) rfl rfl (Nat.le_of_ble_eq_true rfl) (congrArg (_ + ·) (show Int32.ofInt (1) = (1 : Int32) by decide)) rfl ?_
    refine e_goto (t := 95) (dAt D231 67 rfl) ⟨by decide, by decide⟩ ?_
    exact h
-- PlaceNetsModel.sortChosen.()V, from 0
set_option maxRecDepth 20000 in
theorem bk232_0 {d b : Nat} {Q : Option Value → mMem → Prop} {m : mMem} {x0 : Nat} {x1 : Option Value} {x2 : Option Value} (hT : mWT m) (hOx0 : m.1 x0 = some (.inr 8) ∧ x0 ≠ 0)
    (h : mEs d 232 b g232 (2, [some (.ref x0), some (.int 0), x2], [], m) Q) :
    mEs d 232 b g232 (0, [some (.ref x0), x1, x2], [], m) Q := by
  refine e_iconst (pc' := 1) (v := 0) (dAt D232 0 rfl) rfl (by decide) ?_
  refine e_istore_n (pc' := 2) (dAt D232 1 rfl) rfl (Nat.le_of_ble_eq_true rfl) rfl ?_
  exact h
-- PlaceNetsModel.sortChosen.()V, from 2
set_option maxRecDepth 20000 in
theorem bk232_2 {d b : Nat} {Q : Option Value → mMem → Prop} {m : mMem} {x0 : Nat} {x1 : Int32} {x2 : Option Value} (hT : mWT m) (hOx0 : m.1 x0 = some (.inr 8) ∧ x0 ≠ 0)
    (h : ((((iF m x0 60) ≤ x1) → (Q none m)) ∧ (¬ ((iF m x0 60) ≤ x1) → (mEs d 232 b g232 (12, [some (.ref x0), some (.int x1), some (.int x1)], [], m) Q)))) :
    mEs d 232 b g232 (2, [some (.ref x0), some (.int x1), x2], [], m) Q := by
  refine e_iload_n (pc' := 3) (dAt D232 2 rfl) rfl rfl ?_
  refine e_aload_n (pc' := 4) (dAt D232 3 rfl) rfl rfl ?_
  refine e_getfield (pc' := 7) (dAt D232 4 rfl) rfl rfl hOx0 (hT.int hOx0 60 (by decide)) ?_
  refine e_icmp_ge (t := 71) (pc' := 10) (dAt D232 5 rfl) ⟨by decide, by decide⟩ rfl (fun c => ?_) (fun c => ?_)
  · replace h := h.1 c
    exact e_return (dAt D232 43 rfl) rfl h
  · replace h := h.2 c
    refine e_iload_n (pc' := 11) (dAt D232 6 rfl) rfl rfl ?_
    refine e_istore_n (pc' := 12) (dAt D232 7 rfl) rfl (Nat.le_of_ble_eq_true rfl) rfl ?_
    exact h
-- PlaceNetsModel.sortChosen.()V, from 12
set_option maxRecDepth 20000 in
theorem bk232_12 {d b : Nat} {Q : Option Value → mMem → Prop} {m : mMem} {x0 : Nat} {x1 : Int32} {x2 : Int32} (hT : mWT m) (hOx0 : m.1 x0 = some (.inr 8) ∧ x0 ≠ 0)
    (h : (((x2 ≤ 0) → ((mIn x1 3 = true) ∧ ((mIn x2 3 = true) ∧ (∀ (m_1 : mMem), m_1 = (mSetI m (64 * x0 + 41) (upd (m.2.2.1 (64 * x0 + 41)) x2.toNatClampNeg (m.2.2.1 (64 * x0 + 39) x1.toNatClampNeg))) → ∀ (v_3 : Int32), v_3 = (x1 + 1) → mEs d 232 b g232 (2, [some (.ref x0), some (.int v_3), some (.int x2)], [], m_1) Q)))) ∧ (¬ (x2 ≤ 0) → ((mIn (x2 - 1) 3 = true) ∧ ((mIn x1 3 = true) ∧ ((((m.2.2.1 (64 * x0 + 41) (x2 - 1).toNatClampNeg) ≤ (m.2.2.1 (64 * x0 + 39) x1.toNatClampNeg)) → ((mIn x1 3 = true) ∧ ((mIn x2 3 = true) ∧ (∀ (m_4 : mMem), m_4 = (mSetI m (64 * x0 + 41) (upd (m.2.2.1 (64 * x0 + 41)) x2.toNatClampNeg (m.2.2.1 (64 * x0 + 39) x1.toNatClampNeg))) → ∀ (v_6 : Int32), v_6 = (x1 + 1) → mEs d 232 b g232 (2, [some (.ref x0), some (.int v_6), some (.int x2)], [], m_4) Q)))) ∧ (¬ ((m.2.2.1 (64 * x0 + 41) (x2 - 1).toNatClampNeg) ≤ (m.2.2.1 (64 * x0 + 39) x1.toNatClampNeg)) → ((mIn (x2 - 1) 3 = true) ∧ ((mIn x2 3 = true) ∧ (∀ (m_7 : mMem), m_7 = (mSetI m (64 * x0 + 41) (upd (m.2.2.1 (64 * x0 + 41)) x2.toNatClampNeg (m.2.2.1 (64 * x0 + 41) (x2 - 1).toNatClampNeg))) → ∀ (v_9 : Int32), v_9 = (x2 + (-1)) → mEs d 232 b g232 (12, [some (.ref x0), some (.int x1), some (.int v_9)], [], m_7) Q)))))))))) :
    mEs d 232 b g232 (12, [some (.ref x0), some (.int x1), some (.int x2)], [], m) Q := by
  refine e_iload_n (pc' := 13) (dAt D232 8 rfl) rfl rfl ?_
  refine e_if_le (t := 53) (pc' := 16) (dAt D232 9 rfl) ⟨by decide, by decide⟩ rfl (fun c => ?_) (fun c => ?_)
  · replace h := h.1 c
    refine e_aload_n (pc' := 54) (dAt D232 33 rfl) rfl rfl ?_
    refine e_getfield (pc' := 57) (dAt D232 34 rfl) rfl rfl hOx0 (hT.own hOx0 40 rfl) ?_
    refine e_iload_n (pc' := 58) (dAt D232 35 rfl) rfl rfl ?_
    refine e_aload_n (pc' := 59) (dAt D232 36 rfl) rfl rfl ?_
    refine e_getfield (pc' := 62) (dAt D232 37 rfl) rfl rfl hOx0 (hT.own hOx0 38 rfl) ?_
    refine e_iload_n (pc' := 63) (dAt D232 38 rfl) rfl rfl ?_
    obtain ⟨f1, h⟩ := h
    refine e_iaload (pc' := 64) (dAt D232 39 rfl) rfl (hT.arr hOx0 38 rfl (by decide)).1 (Or.inl (hT.arr hOx0 38 rfl (by decide)).2) f1 rfl ?_
    obtain ⟨f1, h⟩ := h
    replace h := h _ rfl
    refine e_iastore (pc' := 65) (dAt D232 40 rfl) rfl (hT.arr hOx0 40 rfl (by decide)).1 (hT.arr hOx0 40 rfl (by decide)).2 f1 (nar_i _) ?_
    refine wtI hT (fun hT_2 => ?_)
    replace h := h _ rfl
    refine e_iinc (pc' := 68) (dAt D232 41 rfl) rfl rfl (Nat.le_of_ble_eq_true rfl) (congrArg (_ + ·) (show Int32.ofInt (1) = (1 : Int32) by decide)) rfl ?_
    refine e_goto (t := 2) (dAt D232 42 rfl) ⟨by decide, by decide⟩ ?_
    exact h
  · replace h := h.2 c
    refine e_aload_n (pc' := 17) (dAt D232 10 rfl) rfl rfl ?_
    refine e_getfield (pc' := 20) (dAt D232 11 rfl) rfl rfl hOx0 (hT.own hOx0 40 rfl) ?_
    refine e_iload_n (pc' := 21) (dAt D232 12 rfl) rfl rfl ?_
    refine e_iconst (pc' := 22) (v := 1) (dAt D232 13 rfl) rfl (by decide) ?_
    refine e_isub (pc' := 23) (dAt D232 14 rfl) rfl ?_
    obtain ⟨f1, h⟩ := h
    refine e_iaload (pc' := 24) (dAt D232 15 rfl) rfl (hT.arr hOx0 40 rfl (by decide)).1 (Or.inl (hT.arr hOx0 40 rfl (by decide)).2) f1 rfl ?_
    refine e_aload_n (pc' := 25) (dAt D232 16 rfl) rfl rfl ?_
    refine e_getfield (pc' := 28) (dAt D232 17 rfl) rfl rfl hOx0 (hT.own hOx0 38 rfl) ?_
    refine e_iload_n (pc' := 29) (dAt D232 18 rfl) rfl rfl ?_
    obtain ⟨f1, h⟩ := h
    refine e_iaload (pc' := 30) (dAt D232 19 rfl) rfl (hT.arr hOx0 38 rfl (by decide)).1 (Or.inl (hT.arr hOx0 38 rfl (by decide)).2) f1 rfl ?_
    refine e_icmp_le (t := 53) (pc' := 33) (dAt D232 20 rfl) ⟨by decide, by decide⟩ rfl (fun c => ?_) (fun c => ?_)
    · replace h := h.1 c
      refine e_aload_n (pc' := 54) (dAt D232 33 rfl) rfl rfl ?_
      refine e_getfield (pc' := 57) (dAt D232 34 rfl) rfl rfl hOx0 (hT.own hOx0 40 rfl) ?_
      refine e_iload_n (pc' := 58) (dAt D232 35 rfl) rfl rfl ?_
      refine e_aload_n (pc' := 59) (dAt D232 36 rfl) rfl rfl ?_
      refine e_getfield (pc' := 62) (dAt D232 37 rfl) rfl rfl hOx0 (hT.own hOx0 38 rfl) ?_
      refine e_iload_n (pc' := 63) (dAt D232 38 rfl) rfl rfl ?_
      obtain ⟨f1, h⟩ := h
      refine e_iaload (pc' := 64) (dAt D232 39 rfl) rfl (hT.arr hOx0 38 rfl (by decide)).1 (Or.inl (hT.arr hOx0 38 rfl (by decide)).2) f1 rfl ?_
      obtain ⟨f1, h⟩ := h
      replace h := h _ rfl
      refine e_iastore (pc' := 65) (dAt D232 40 rfl) rfl (hT.arr hOx0 40 rfl (by decide)).1 (hT.arr hOx0 40 rfl (by decide)).2 f1 (nar_i _) ?_
      refine wtI hT (fun hT_5 => ?_)
      replace h := h _ rfl
      refine e_iinc (pc' := 68) (dAt D232 41 rfl) rfl rfl (Nat.le_of_ble_eq_true rfl) (congrArg (_ + ·) (show Int32.ofInt (1) = (1 : Int32) by decide)) rfl ?_
      refine e_goto (t := 2) (dAt D232 42 rfl) ⟨by decide, by decide⟩ ?_
      exact h
    · replace h := h.2 c
      refine e_aload_n (pc' := 34) (dAt D232 21 rfl) rfl rfl ?_
      refine e_getfield (pc' := 37) (dAt D232 22 rfl) rfl rfl hOx0 (hT.own hOx0 40 rfl) ?_
      refine e_iload_n (pc' := 38) (dAt D232 23 rfl) rfl rfl ?_
      refine e_aload_n (pc' := 39) (dAt D232 24 rfl) rfl rfl ?_
      refine e_getfield (pc' := 42) (dAt D232 25 rfl) rfl rfl hOx0 (hT.own hOx0 40 rfl) ?_
      refine e_iload_n (pc' := 43) (dAt D232 26 rfl) rfl rfl ?_
      refine e_iconst (pc' := 44) (v := 1) (dAt D232 27 rfl) rfl (by decide) ?_
      refine e_isub (pc' := 45) (dAt D232 28 rfl) rfl ?_
      obtain ⟨f1, h⟩ := h
      refine e_iaload (pc' := 46) (dAt D232 29 rfl) rfl (hT.arr hOx0 40 rfl (by decide)).1 (Or.inl (hT.arr hOx0 40 rfl (by decide)).2) f1 rfl ?_
      obtain ⟨f1, h⟩ := h
      replace h := h _ rfl
      refine e_iastore (pc' := 47) (dAt D232 30 rfl) rfl (hT.arr hOx0 40 rfl (by decide)).1 (hT.arr hOx0 40 rfl (by decide)).2 f1 (nar_i _) ?_
      refine wtI hT (fun hT_8 => ?_)
      replace h := h _ rfl
      refine e_iinc (pc' := 50) (dAt D232 31 rfl) rfl rfl (Nat.le_of_ble_eq_true rfl) (congrArg (_ + ·) (show Int32.ofInt (-1) = (-1 : Int32) by decide)) rfl ?_
      refine e_goto (t := 12) (dAt D232 32 rfl) ⟨by decide, by decide⟩ ?_
      exact h
-- PlaceNetsModel.isLess.()Z, from 0
set_option maxRecDepth 20000 in
theorem bk233_0 {d b : Nat} {Q : Option Value → mMem → Prop} {m : mMem} {x0 : Nat} {x1 : Option Value} (hT : mWT m) (hOx0 : m.1 x0 = some (.inr 8) ∧ x0 ≠ 0)
    (h : mEs d 233 b g233 (2, [some (.ref x0), some (.int 0)], [], m) Q) :
    mEs d 233 b g233 (0, [some (.ref x0), x1], [], m) Q := by
  refine e_iconst (pc' := 1) (v := 0) (dAt D233 0 rfl) rfl (by decide) ?_
  refine e_istore_n (pc' := 2) (dAt D233 1 rfl) rfl (Nat.le_of_ble_eq_true rfl) rfl ?_
  exact h
-- PlaceNetsModel.isLess.()Z, from 2
set_option maxRecDepth 20000 in
theorem bk233_2 {d b : Nat} {Q : Option Value → mMem → Prop} {m : mMem} {x0 : Nat} {x1 : Int32} (hT : mWT m) (hOx0 : m.1 x0 = some (.inr 8) ∧ x0 ≠ 0)
    (h : ((((iF m x0 60) ≤ x1) → ((((iF m x0 60) ≤ x1) → (Q (some (.int 0)) m)) ∧ (¬ ((iF m x0 60) ≤ x1) → ((mIn x1 3 = true) ∧ ((mIn x1 3 = true) ∧ ((((m.2.2.1 (64 * x0 + 40) x1.toNatClampNeg) ≤ (m.2.2.1 (64 * x0 + 41) x1.toNatClampNeg)) → (Q (some (.int 0)) m)) ∧ (¬ ((m.2.2.1 (64 * x0 + 40) x1.toNatClampNeg) ≤ (m.2.2.1 (64 * x0 + 41) x1.toNatClampNeg)) → (Q (some (.int 1)) m)))))))) ∧ (¬ ((iF m x0 60) ≤ x1) → ((mIn x1 3 = true) ∧ ((mIn x1 3 = true) ∧ (((¬ (m.2.2.1 (64 * x0 + 41) x1.toNatClampNeg) = (m.2.2.1 (64 * x0 + 40) x1.toNatClampNeg)) → ((((iF m x0 60) ≤ x1) → (Q (some (.int 0)) m)) ∧ (¬ ((iF m x0 60) ≤ x1) → ((mIn x1 3 = true) ∧ ((mIn x1 3 = true) ∧ ((((m.2.2.1 (64 * x0 + 40) x1.toNatClampNeg) ≤ (m.2.2.1 (64 * x0 + 41) x1.toNatClampNeg)) → (Q (some (.int 0)) m)) ∧ (¬ ((m.2.2.1 (64 * x0 + 40) x1.toNatClampNeg) ≤ (m.2.2.1 (64 * x0 + 41) x1.toNatClampNeg)) → (Q (some (.int 1)) m)))))))) ∧ (¬ (¬ (m.2.2.1 (64 * x0 + 41) x1.toNatClampNeg) = (m.2.2.1 (64 * x0 + 40) x1.toNatClampNeg)) → (∀ (v_1 : Int32), v_1 = (x1 + 1) → mEs d 233 b g233 (2, [some (.ref x0), some (.int v_1)], [], m) Q)))))))) :
    mEs d 233 b g233 (2, [some (.ref x0), some (.int x1)], [], m) Q := by
  refine e_iload_n (pc' := 3) (dAt D233 2 rfl) rfl rfl ?_
  refine e_aload_n (pc' := 4) (dAt D233 3 rfl) rfl rfl ?_
  refine e_getfield (pc' := 7) (dAt D233 4 rfl) rfl rfl hOx0 (hT.int hOx0 60 (by decide)) ?_
  refine e_icmp_ge (t := 31) (pc' := 10) (dAt D233 5 rfl) ⟨by decide, by decide⟩ rfl (fun c => ?_) (fun c => ?_)
  · replace h := h.1 c
    refine e_iload_n (pc' := 32) (dAt D233 17 rfl) rfl rfl ?_
    refine e_aload_n (pc' := 33) (dAt D233 18 rfl) rfl rfl ?_
    refine e_getfield (pc' := 36) (dAt D233 19 rfl) rfl rfl hOx0 (hT.int hOx0 60 (by decide)) ?_
    refine e_icmp_ge (t := 58) (pc' := 39) (dAt D233 20 rfl) ⟨by decide, by decide⟩ rfl (fun c => ?_) (fun c => ?_)
    · replace h := h.1 c
      refine e_iconst (pc' := 59) (v := 0) (dAt D233 32 rfl) rfl (by decide) ?_
      exact e_ireturn (dAt D233 33 rfl) rfl ⟨rfl, fun e => by cases e⟩ h
    · replace h := h.2 c
      refine e_aload_n (pc' := 40) (dAt D233 21 rfl) rfl rfl ?_
      refine e_getfield (pc' := 43) (dAt D233 22 rfl) rfl rfl hOx0 (hT.own hOx0 40 rfl) ?_
      refine e_iload_n (pc' := 44) (dAt D233 23 rfl) rfl rfl ?_
      obtain ⟨f1, h⟩ := h
      refine e_iaload (pc' := 45) (dAt D233 24 rfl) rfl (hT.arr hOx0 40 rfl (by decide)).1 (Or.inl (hT.arr hOx0 40 rfl (by decide)).2) f1 rfl ?_
      refine e_aload_n (pc' := 46) (dAt D233 25 rfl) rfl rfl ?_
      refine e_getfield (pc' := 49) (dAt D233 26 rfl) rfl rfl hOx0 (hT.own hOx0 39 rfl) ?_
      refine e_iload_n (pc' := 50) (dAt D233 27 rfl) rfl rfl ?_
      obtain ⟨f1, h⟩ := h
      refine e_iaload (pc' := 51) (dAt D233 28 rfl) rfl (hT.arr hOx0 39 rfl (by decide)).1 (Or.inl (hT.arr hOx0 39 rfl (by decide)).2) f1 rfl ?_
      refine e_icmp_ge (t := 58) (pc' := 54) (dAt D233 29 rfl) ⟨by decide, by decide⟩ rfl (fun c => ?_) (fun c => ?_)
      · replace h := h.1 c
        refine e_iconst (pc' := 59) (v := 0) (dAt D233 32 rfl) rfl (by decide) ?_
        exact e_ireturn (dAt D233 33 rfl) rfl ⟨rfl, fun e => by cases e⟩ h
      · replace h := h.2 c
        refine e_iconst (pc' := 55) (v := 1) (dAt D233 30 rfl) rfl (by decide) ?_
        refine e_goto (t := 59) (dAt D233 31 rfl) ⟨by decide, by decide⟩ ?_
        exact e_ireturn (dAt D233 33 rfl) rfl ⟨rfl, fun e => by cases e⟩ h
  · replace h := h.2 c
    refine e_aload_n (pc' := 11) (dAt D233 6 rfl) rfl rfl ?_
    refine e_getfield (pc' := 14) (dAt D233 7 rfl) rfl rfl hOx0 (hT.own hOx0 40 rfl) ?_
    refine e_iload_n (pc' := 15) (dAt D233 8 rfl) rfl rfl ?_
    obtain ⟨f1, h⟩ := h
    refine e_iaload (pc' := 16) (dAt D233 9 rfl) rfl (hT.arr hOx0 40 rfl (by decide)).1 (Or.inl (hT.arr hOx0 40 rfl (by decide)).2) f1 rfl ?_
    refine e_aload_n (pc' := 17) (dAt D233 10 rfl) rfl rfl ?_
    refine e_getfield (pc' := 20) (dAt D233 11 rfl) rfl rfl hOx0 (hT.own hOx0 39 rfl) ?_
    refine e_iload_n (pc' := 21) (dAt D233 12 rfl) rfl rfl ?_
    obtain ⟨f1, h⟩ := h
    refine e_iaload (pc' := 22) (dAt D233 13 rfl) rfl (hT.arr hOx0 39 rfl (by decide)).1 (Or.inl (hT.arr hOx0 39 rfl (by decide)).2) f1 rfl ?_
    refine e_icmp_ne (t := 31) (pc' := 25) (dAt D233 14 rfl) ⟨by decide, by decide⟩ rfl (fun c => ?_) (fun c => ?_)
    · replace h := h.1 c
      refine e_iload_n (pc' := 32) (dAt D233 17 rfl) rfl rfl ?_
      refine e_aload_n (pc' := 33) (dAt D233 18 rfl) rfl rfl ?_
      refine e_getfield (pc' := 36) (dAt D233 19 rfl) rfl rfl hOx0 (hT.int hOx0 60 (by decide)) ?_
      refine e_icmp_ge (t := 58) (pc' := 39) (dAt D233 20 rfl) ⟨by decide, by decide⟩ rfl (fun c => ?_) (fun c => ?_)
      · replace h := h.1 c
        refine e_iconst (pc' := 59) (v := 0) (dAt D233 32 rfl) rfl (by decide) ?_
        exact e_ireturn (dAt D233 33 rfl) rfl ⟨rfl, fun e => by cases e⟩ h
      · replace h := h.2 c
        refine e_aload_n (pc' := 40) (dAt D233 21 rfl) rfl rfl ?_
        refine e_getfield (pc' := 43) (dAt D233 22 rfl) rfl rfl hOx0 (hT.own hOx0 40 rfl) ?_
        refine e_iload_n (pc' := 44) (dAt D233 23 rfl) rfl rfl ?_
        obtain ⟨f1, h⟩ := h
        refine e_iaload (pc' := 45) (dAt D233 24 rfl) rfl (hT.arr hOx0 40 rfl (by decide)).1 (Or.inl (hT.arr hOx0 40 rfl (by decide)).2) f1 rfl ?_
        refine e_aload_n (pc' := 46) (dAt D233 25 rfl) rfl rfl ?_
        refine e_getfield (pc' := 49) (dAt D233 26 rfl) rfl rfl hOx0 (hT.own hOx0 39 rfl) ?_
        refine e_iload_n (pc' := 50) (dAt D233 27 rfl) rfl rfl ?_
        obtain ⟨f1, h⟩ := h
        refine e_iaload (pc' := 51) (dAt D233 28 rfl) rfl (hT.arr hOx0 39 rfl (by decide)).1 (Or.inl (hT.arr hOx0 39 rfl (by decide)).2) f1 rfl ?_
        refine e_icmp_ge (t := 58) (pc' := 54) (dAt D233 29 rfl) ⟨by decide, by decide⟩ rfl (fun c => ?_) (fun c => ?_)
        · replace h := h.1 c
          refine e_iconst (pc' := 59) (v := 0) (dAt D233 32 rfl) rfl (by decide) ?_
          exact e_ireturn (dAt D233 33 rfl) rfl ⟨rfl, fun e => by cases e⟩ h
        · replace h := h.2 c
          refine e_iconst (pc' := 55) (v := 1) (dAt D233 30 rfl) rfl (by decide) ?_
          refine e_goto (t := 59) (dAt D233 31 rfl) ⟨by decide, by decide⟩ ?_
          exact e_ireturn (dAt D233 33 rfl) rfl ⟨rfl, fun e => by cases e⟩ h
    · replace h := h.2 c
      replace h := h _ rfl
      refine e_iinc (pc' := 28) (dAt D233 15 rfl) rfl rfl (Nat.le_of_ble_eq_true rfl) (congrArg (_ + ·) (show Int32.ofInt (1) = (1 : Int32) by decide)) rfl ?_
      refine e_goto (t := 2) (dAt D233 16 rfl) ⟨by decide, by decide⟩ ?_
      exact h
-- PlaceNetsModel.isThere.(I)Z, from 0
set_option maxRecDepth 20000 in
theorem bk234_0 {d b : Nat} {Q : Option Value → mMem → Prop} {m : mMem} {x0 : Nat} {x1 : Int32} {x2 : Option Value} {x3 : Option Value} {x4 : Option Value} (hT : mWT m) (hOx0 : m.1 x0 = some (.inr 8) ∧ x0 ≠ 0)
    (h : mEs d 234 b g234 (4, [some (.ref x0), some (.int x1), some (.int 0), some (.int 0), x4], [], m) Q) :
    mEs d 234 b g234 (0, [some (.ref x0), some (.int x1), x2, x3, x4], [], m) Q := by
  refine e_iconst (pc' := 1) (v := 0) (dAt D234 0 rfl) rfl (by decide) ?_
  refine e_istore_n (pc' := 2) (dAt D234 1 rfl) rfl (Nat.le_of_ble_eq_true rfl) rfl ?_
  refine e_iconst (pc' := 3) (v := 0) (dAt D234 2 rfl) rfl (by decide) ?_
  refine e_istore_n (pc' := 4) (dAt D234 3 rfl) rfl (Nat.le_of_ble_eq_true rfl) rfl ?_
  exact h
-- PlaceNetsModel.isThere.(I)Z, from 4
set_option maxRecDepth 20000 in
theorem bk234_4 {d b : Nat} {Q : Option Value → mMem → Prop} {m : mMem} {x0 : Nat} {x1 : Int32} {x2 : Int32} {x3 : Int32} {x4 : Option Value} (hT : mWT m) (hOx0 : m.1 x0 = some (.inr 8) ∧ x0 ≠ 0)
    (h : ((((iF m x0 47) ≤ x3) → ((x2 = 0 ∨ x2 = 1) ∧ (Q (some (.int x2)) m))) ∧ (¬ ((iF m x0 47) ≤ x3) → (((¬ x2 = 0) → ((x2 = 0 ∨ x2 = 1) ∧ (Q (some (.int x2)) m))) ∧ (¬ (¬ x2 = 0) → ((mIn x3 31 = true) ∧ (((¬ (m.2.2.1 (64 * x0 + 28) x3.toNatClampNeg) = x1) → (mEs d 234 b g234 (35, [some (.ref x0), some (.int x1), some (.int 0), some (.int x3), some (.int 0)], [], m) Q)) ∧ (¬ (¬ (m.2.2.1 (64 * x0 + 28) x3.toNatClampNeg) = x1) → (mEs d 234 b g234 (35, [some (.ref x0), some (.int x1), some (.int 1), some (.int x3), some (.int 0)], [], m) Q))))))))) :
    mEs d 234 b g234 (4, [some (.ref x0), some (.int x1), some (.int x2), some (.int x3), x4], [], m) Q := by
  refine e_iload_n (pc' := 5) (dAt D234 4 rfl) rfl rfl ?_
  refine e_aload_n (pc' := 6) (dAt D234 5 rfl) rfl rfl ?_
  refine e_getfield (pc' := 9) (dAt D234 6 rfl) rfl rfl hOx0 (hT.int hOx0 47 (by decide)) ?_
  refine e_icmp_ge (t := 87) (pc' := 12) (dAt D234 7 rfl) ⟨by decide, by decide⟩ rfl (fun c => ?_) (fun c => ?_)
  · replace h := h.1 c
    refine e_iload_n (pc' := 88) (dAt D234 49 rfl) rfl rfl ?_
    obtain ⟨f1, h⟩ := h
    exact e_ireturn (dAt D234 50 rfl) rfl ⟨nb01 f1, fun e => by cases e⟩ h
  · replace h := h.2 c
    refine e_iload_n (pc' := 13) (dAt D234 8 rfl) rfl rfl ?_
    refine e_if_ne (t := 87) (pc' := 16) (dAt D234 9 rfl) ⟨by decide, by decide⟩ rfl (fun c => ?_) (fun c => ?_)
    · replace h := h.1 c
      refine e_iload_n (pc' := 88) (dAt D234 49 rfl) rfl rfl ?_
      obtain ⟨f1, h⟩ := h
      exact e_ireturn (dAt D234 50 rfl) rfl ⟨nb01 f1, fun e => by cases e⟩ h
    · replace h := h.2 c
      refine e_aload_n (pc' := 17) (dAt D234 10 rfl) rfl rfl ?_
      refine e_getfield (pc' := 20) (dAt D234 11 rfl) rfl rfl hOx0 (hT.own hOx0 27 rfl) ?_
      refine e_iload_n (pc' := 21) (dAt D234 12 rfl) rfl rfl ?_
      obtain ⟨f1, h⟩ := h
      refine e_iaload (pc' := 22) (dAt D234 13 rfl) rfl (hT.arr hOx0 27 rfl (by decide)).1 (Or.inl (hT.arr hOx0 27 rfl (by decide)).2) f1 rfl ?_
      refine e_iload_n (pc' := 23) (dAt D234 14 rfl) rfl rfl ?_
      refine e_icmp_ne (t := 30) (pc' := 26) (dAt D234 15 rfl) ⟨by decide, by decide⟩ rfl (fun c => ?_) (fun c => ?_)
      · replace h := h.1 c
        refine e_iconst (pc' := 31) (v := 0) (dAt D234 18 rfl) rfl (by decide) ?_
        refine e_istore_n (pc' := 32) (dAt D234 19 rfl) rfl (Nat.le_of_ble_eq_true rfl) rfl ?_
        refine e_iconst (pc' := 33) (v := 0) (dAt D234 20 rfl) rfl (by decide) ?_
        refine e_istore (pc' := 35) (dAt D234 21 rfl) rfl (Nat.le_of_ble_eq_true rfl) rfl ?_
        exact h
      · replace h := h.2 c
        refine e_iconst (pc' := 27) (v := 1) (dAt D234 16 rfl) rfl (by decide) ?_
        refine e_goto (t := 31) (dAt D234 17 rfl) ⟨by decide, by decide⟩ ?_
        refine e_istore_n (pc' := 32) (dAt D234 19 rfl) rfl (Nat.le_of_ble_eq_true rfl) rfl ?_
        refine e_iconst (pc' := 33) (v := 0) (dAt D234 20 rfl) rfl (by decide) ?_
        refine e_istore (pc' := 35) (dAt D234 21 rfl) rfl (Nat.le_of_ble_eq_true rfl) rfl ?_
        exact h
-- PlaceNetsModel.isThere.(I)Z, from 35
set_option maxRecDepth 20000 in
theorem bk234_35 {d b : Nat} {Q : Option Value → mMem → Prop} {m : mMem} {x0 : Nat} {x1 : Int32} {x2 : Int32} {x3 : Int32} {x4 : Int32} (hT : mWT m) (hOx0 : m.1 x0 = some (.inr 8) ∧ x0 ≠ 0)
    (h : ((((iF m x0 60) ≤ x4) → (∀ (v_1 : Int32), v_1 = (x3 + 1) → mEs d 234 b g234 (4, [some (.ref x0), some (.int x1), some (.int x2), some (.int v_1), some (.int x4)], [], m) Q)) ∧ (¬ ((iF m x0 60) ≤ x4) → (((x2 = 0) → (∀ (v_2 : Int32), v_2 = (x4 + 1) → mEs d 234 b g234 (35, [some (.ref x0), some (.int x1), some (.int 0), some (.int x3), some (.int v_2)], [], m) Q)) ∧ (¬ (x2 = 0) → ((mIn ((3 * x3) + x4) 93 = true) ∧ ((mIn x4 3 = true) ∧ (((¬ (m.2.2.1 (64 * x0 + 29) ((3 * x3) + x4).toNatClampNeg) = (m.2.2.1 (64 * x0 + 41) x4.toNatClampNeg)) → (∀ (v_3 : Int32), v_3 = (x4 + 1) → mEs d 234 b g234 (35, [some (.ref x0), some (.int x1), some (.int 0), some (.int x3), some (.int v_3)], [], m) Q)) ∧ (¬ (¬ (m.2.2.1 (64 * x0 + 29) ((3 * x3) + x4).toNatClampNeg) = (m.2.2.1 (64 * x0 + 41) x4.toNatClampNeg)) → (∀ (v_4 : Int32), v_4 = (x4 + 1) → mEs d 234 b g234 (35, [some (.ref x0), some (.int x1), some (.int 1), some (.int x3), some (.int v_4)], [], m) Q)))))))))) :
    mEs d 234 b g234 (35, [some (.ref x0), some (.int x1), some (.int x2), some (.int x3), some (.int x4)], [], m) Q := by
  refine e_iload (pc' := 37) (dAt D234 22 rfl) rfl rfl ?_
  refine e_aload_n (pc' := 38) (dAt D234 23 rfl) rfl rfl ?_
  refine e_getfield (pc' := 41) (dAt D234 24 rfl) rfl rfl hOx0 (hT.int hOx0 60 (by decide)) ?_
  refine e_icmp_ge (t := 81) (pc' := 44) (dAt D234 25 rfl) ⟨by decide, by decide⟩ rfl (fun c => ?_) (fun c => ?_)
  · replace h := h.1 c
    replace h := h _ rfl
    refine e_iinc (pc' := 84) (dAt D234 47 rfl) rfl rfl (Nat.le_of_ble_eq_true rfl) (congrArg (_ + ·) (show Int32.ofInt (1) = (1 : Int32) by decide)) rfl ?_
    refine e_goto (t := 4) (dAt D234 48 rfl) ⟨by decide, by decide⟩ ?_
    exact h
  · replace h := h.2 c
    refine e_iload_n (pc' := 45) (dAt D234 26 rfl) rfl rfl ?_
    refine e_if_eq (t := 73) (pc' := 48) (dAt D234 27 rfl) ⟨by decide, by decide⟩ rfl (fun c => ?_) (fun c => ?_)
    · replace h := h.1 c
      refine e_iconst (pc' := 74) (v := 0) (dAt D234 43 rfl) rfl (by decide) ?_
      refine e_istore_n (pc' := 75) (dAt D234 44 rfl) rfl (Nat.le_of_ble_eq_true rfl) rfl ?_
      replace h := h _ rfl
      refine e_iinc (pc' := 78) (dAt D234 45 rfl) rfl rfl (Nat.le_of_ble_eq_true rfl) (congrArg (_ + ·) (show Int32.ofInt (1) = (1 : Int32) by decide)) rfl ?_
      refine e_goto (t := 35) (dAt D234 46 rfl) ⟨by decide, by decide⟩ ?_
      exact h
    · replace h := h.2 c
      refine e_aload_n (pc' := 49) (dAt D234 28 rfl) rfl rfl ?_
      refine e_getfield (pc' := 52) (dAt D234 29 rfl) rfl rfl hOx0 (hT.own hOx0 28 rfl) ?_
      refine e_iconst (pc' := 53) (v := 3) (dAt D234 30 rfl) rfl (by decide) ?_
      refine e_iload_n (pc' := 54) (dAt D234 31 rfl) rfl rfl ?_
      refine e_imul (pc' := 55) (dAt D234 32 rfl) rfl ?_
      refine e_iload (pc' := 57) (dAt D234 33 rfl) rfl rfl ?_
      refine e_iadd (pc' := 58) (dAt D234 34 rfl) rfl ?_
      obtain ⟨f1, h⟩ := h
      refine e_iaload (pc' := 59) (dAt D234 35 rfl) rfl (hT.arr hOx0 28 rfl (by decide)).1 (Or.inl (hT.arr hOx0 28 rfl (by decide)).2) f1 rfl ?_
      refine e_aload_n (pc' := 60) (dAt D234 36 rfl) rfl rfl ?_
      refine e_getfield (pc' := 63) (dAt D234 37 rfl) rfl rfl hOx0 (hT.own hOx0 40 rfl) ?_
      refine e_iload (pc' := 65) (dAt D234 38 rfl) rfl rfl ?_
      obtain ⟨f1, h⟩ := h
      refine e_iaload (pc' := 66) (dAt D234 39 rfl) rfl (hT.arr hOx0 40 rfl (by decide)).1 (Or.inl (hT.arr hOx0 40 rfl (by decide)).2) f1 rfl ?_
      refine e_icmp_ne (t := 73) (pc' := 69) (dAt D234 40 rfl) ⟨by decide, by decide⟩ rfl (fun c => ?_) (fun c => ?_)
      · replace h := h.1 c
        refine e_iconst (pc' := 74) (v := 0) (dAt D234 43 rfl) rfl (by decide) ?_
        refine e_istore_n (pc' := 75) (dAt D234 44 rfl) rfl (Nat.le_of_ble_eq_true rfl) rfl ?_
        replace h := h _ rfl
        refine e_iinc (pc' := 78) (dAt D234 45 rfl) rfl rfl (Nat.le_of_ble_eq_true rfl) (congrArg (_ + ·) (show Int32.ofInt (1) = (1 : Int32) by decide)) rfl ?_
        refine e_goto (t := 35) (dAt D234 46 rfl) ⟨by decide, by decide⟩ ?_
        exact h
      · replace h := h.2 c
        refine e_iconst (pc' := 70) (v := 1) (dAt D234 41 rfl) rfl (by decide) ?_
        refine e_goto (t := 74) (dAt D234 42 rfl) ⟨by decide, by decide⟩ ?_
        refine e_istore_n (pc' := 75) (dAt D234 44 rfl) rfl (Nat.le_of_ble_eq_true rfl) rfl ?_
        replace h := h _ rfl
        refine e_iinc (pc' := 78) (dAt D234 45 rfl) rfl rfl (Nat.le_of_ble_eq_true rfl) (congrArg (_ + ·) (show Int32.ofInt (1) = (1 : Int32) by decide)) rfl ?_
        refine e_goto (t := 35) (dAt D234 46 rfl) ⟨by decide, by decide⟩ ?_
        exact h
-- PlaceNetsModel.addEvent.()V, from 0
set_option maxRecDepth 20000 in
theorem bk235_0 {d b : Nat} {Q : Option Value → mMem → Prop} {m : mMem} {x0 : Nat} {x1 : Option Value} {x2 : Option Value} {x3 : Option Value} {x4 : Option Value} (hT : mWT m) (hOx0 : m.1 x0 = some (.inr 8) ∧ x0 ≠ 0)
    (h : ∀ (v_1 : Int32), v_1 = (iF m x0 47) → (mIn v_1 31 = true) ∧ (∀ (m_2 : mMem), m_2 = (mSetI m (64 * x0 + 28) (upd (m.2.2.1 (64 * x0 + 28)) v_1.toNatClampNeg (iF m x0 63))) → mEv d 227 [.ref x0, .int (iF m_2 x0 63)] m_2 (fun r m' => mEs d 235 b g235 (23, [some (.ref x0), some (.int v_1), x2, x3, x4], r.toList ++ [], m') Q))) :
    mEs d 235 b g235 (0, [some (.ref x0), x1, x2, x3, x4], [], m) Q := by
  refine e_aload_n (pc' := 1) (dAt D235 0 rfl) rfl rfl ?_
  refine e_getfield (pc' := 4) (dAt D235 1 rfl) rfl rfl hOx0 (hT.int hOx0 47 (by decide)) ?_
  replace h := h _ rfl
  refine e_istore_n (pc' := 5) (dAt D235 2 rfl) rfl (Nat.le_of_ble_eq_true rfl) rfl ?_
  refine e_aload_n (pc' := 6) (dAt D235 3 rfl) rfl rfl ?_
  refine e_getfield (pc' := 9) (dAt D235 4 rfl) rfl rfl hOx0 (hT.own hOx0 27 rfl) ?_
  refine e_iload_n (pc' := 10) (dAt D235 5 rfl) rfl rfl ?_
  refine e_aload_n (pc' := 11) (dAt D235 6 rfl) rfl rfl ?_
  refine e_getfield (pc' := 14) (dAt D235 7 rfl) rfl rfl hOx0 (hT.int hOx0 63 (by decide)) ?_
  obtain ⟨f1, h⟩ := h
  replace h := h _ rfl
  refine e_iastore (pc' := 15) (dAt D235 8 rfl) rfl (hT.arr hOx0 27 rfl (by decide)).1 (hT.arr hOx0 27 rfl (by decide)).2 f1 (nar_i _) ?_
  refine wtI hT (fun hT_3 => ?_)
  refine e_aload_n (pc' := 16) (dAt D235 9 rfl) rfl rfl ?_
  refine e_aload_n (pc' := 17) (dAt D235 10 rfl) rfl rfl ?_
  refine e_getfield (pc' := 20) (dAt D235 11 rfl) rfl rfl hOx0 (hT_3.int hOx0 63 (by decide)) ?_
  exact e_call2 h (dAt D235 12 rfl) (hi0 rfl) rfl G227 (by decide) rfl (Nat.le_of_ble_eq_true rfl) (kV hOx0 rfl rfl) rfl rfl
-- PlaceNetsModel.addEvent.()V, from 23
set_option maxRecDepth 20000 in
theorem bk235_23 {d b : Nat} {Q : Option Value → mMem → Prop} {m : mMem} {x0 : Nat} {x1 : Int32} {x2 : Option Value} {x3 : Option Value} {x4 : Option Value} (hT : mWT m) (hOx0 : m.1 x0 = some (.inr 8) ∧ x0 ≠ 0)
    (h : (mIn x1 31 = true) ∧ (∀ (m_1 : mMem), m_1 = (mSetI m (64 * x0 + 30) (upd (m.2.2.1 (64 * x0 + 30)) x1.toNatClampNeg (iF m x0 60))) → (mIn x1 31 = true) ∧ (∀ (m_3 : mMem), m_3 = (mSetI m_1 (64 * x0 + 31) (upd (m_1.2.2.1 (64 * x0 + 31)) x1.toNatClampNeg ((1 : Int32) <<< (x1 &&& 31)))) → (mIn x1 31 = true) ∧ (∀ (m_5 : mMem), m_5 = (mSetI m_3 (64 * x0 + 34) (upd (m_3.2.2.1 (64 * x0 + 34)) x1.toNatClampNeg 0)) → mEs d 235 b g235 (51, [some (.ref x0), some (.int x1), some (.int 0), x3, x4], [], m_5) Q)))) :
    mEs d 235 b g235 (23, [some (.ref x0), some (.int x1), x2, x3, x4], [], m) Q := by
  refine e_aload_n (pc' := 24) (dAt D235 13 rfl) rfl rfl ?_
  refine e_getfield (pc' := 27) (dAt D235 14 rfl) rfl rfl hOx0 (hT.own hOx0 29 rfl) ?_
  refine e_iload_n (pc' := 28) (dAt D235 15 rfl) rfl rfl ?_
  refine e_aload_n (pc' := 29) (dAt D235 16 rfl) rfl rfl ?_
  refine e_getfield (pc' := 32) (dAt D235 17 rfl) rfl rfl hOx0 (hT.int hOx0 60 (by decide)) ?_
  obtain ⟨f1, h⟩ := h
  replace h := h _ rfl
  refine e_iastore (pc' := 33) (dAt D235 18 rfl) rfl (hT.arr hOx0 29 rfl (by decide)).1 (hT.arr hOx0 29 rfl (by decide)).2 f1 (nar_i _) ?_
  refine wtI hT (fun hT_2 => ?_)
  refine e_aload_n (pc' := 34) (dAt D235 19 rfl) rfl rfl ?_
  refine e_getfield (pc' := 37) (dAt D235 20 rfl) rfl rfl hOx0 (hT_2.own hOx0 30 rfl) ?_
  refine e_iload_n (pc' := 38) (dAt D235 21 rfl) rfl rfl ?_
  refine e_iconst (pc' := 39) (v := 1) (dAt D235 22 rfl) rfl (by decide) ?_
  refine e_iload_n (pc' := 40) (dAt D235 23 rfl) rfl rfl ?_
  refine e_ishl (pc' := 41) (dAt D235 24 rfl) rfl ?_
  obtain ⟨f1, h⟩ := h
  replace h := h _ rfl
  refine e_iastore (pc' := 42) (dAt D235 25 rfl) rfl (hT_2.arr hOx0 30 rfl (by decide)).1 (hT_2.arr hOx0 30 rfl (by decide)).2 f1 (nar_i _) ?_
  refine wtI hT_2 (fun hT_4 => ?_)
  refine e_aload_n (pc' := 43) (dAt D235 26 rfl) rfl rfl ?_
  refine e_getfield (pc' := 46) (dAt D235 27 rfl) rfl rfl hOx0 (hT_4.own hOx0 33 rfl) ?_
  refine e_iload_n (pc' := 47) (dAt D235 28 rfl) rfl rfl ?_
  refine e_iconst (pc' := 48) (v := 0) (dAt D235 29 rfl) rfl (by decide) ?_
  obtain ⟨f1, h⟩ := h
  replace h := h _ rfl
  refine e_iastore (pc' := 49) (dAt D235 30 rfl) rfl (hT_4.arr hOx0 33 rfl (by decide)).1 (hT_4.arr hOx0 33 rfl (by decide)).2 f1 (nar_i _) ?_
  refine wtI hT_4 (fun hT_6 => ?_)
  refine e_iconst (pc' := 50) (v := 0) (dAt D235 31 rfl) rfl (by decide) ?_
  refine e_istore_n (pc' := 51) (dAt D235 32 rfl) rfl (Nat.le_of_ble_eq_true rfl) rfl ?_
  exact h
-- PlaceNetsModel.addEvent.()V, from 51
set_option maxRecDepth 20000 in
theorem bk235_51 {d b : Nat} {Q : Option Value → mMem → Prop} {m : mMem} {x0 : Nat} {x1 : Int32} {x2 : Int32} {x3 : Option Value} {x4 : Option Value} (hT : mWT m) (hOx0 : m.1 x0 = some (.inr 8) ∧ x0 ≠ 0)
    (h : ((((iF m x0 60) ≤ x2) → (mEs d 235 b g235 (122, [some (.ref x0), some (.int x1), some (.int 0), x3, x4], [], m) Q)) ∧ (¬ ((iF m x0 60) ≤ x2) → ((mIn x2 3 = true) ∧ ((mIn ((3 * x1) + x2) 93 = true) ∧ (∀ (m_1 : mMem), m_1 = (mSetI m (64 * x0 + 29) (upd (m.2.2.1 (64 * x0 + 29)) ((3 * x1) + x2).toNatClampNeg (m.2.2.1 (64 * x0 + 40) x2.toNatClampNeg))) → (mIn x1 31 = true) ∧ ((mIn x2 3 = true) ∧ (mEv d 230 [.ref x0, .int (m_1.2.2.1 (64 * x0 + 40) x2.toNatClampNeg)] m_1 (fun r m' => mEs d 235 b g235 (92, [some (.ref x0), some (.int x1), some (.int x2), x3, x4], r.toList ++ [.int (m_1.2.2.1 (64 * x0 + 31) x1.toNatClampNeg), .int x1, .ref (64 * x0 + 31)], m') Q))))))))) :
    mEs d 235 b g235 (51, [some (.ref x0), some (.int x1), some (.int x2), x3, x4], [], m) Q := by
  refine e_iload_n (pc' := 52) (dAt D235 33 rfl) rfl rfl ?_
  refine e_aload_n (pc' := 53) (dAt D235 34 rfl) rfl rfl ?_
  refine e_getfield (pc' := 56) (dAt D235 35 rfl) rfl rfl hOx0 (hT.int hOx0 60 (by decide)) ?_
  refine e_icmp_ge (t := 120) (pc' := 59) (dAt D235 36 rfl) ⟨by decide, by decide⟩ rfl (fun c => ?_) (fun c => ?_)
  · replace h := h.1 c
    refine e_iconst (pc' := 121) (v := 0) (dAt D235 78 rfl) rfl (by decide) ?_
    refine e_istore_n (pc' := 122) (dAt D235 79 rfl) rfl (Nat.le_of_ble_eq_true rfl) rfl ?_
    exact h
  · replace h := h.2 c
    refine e_aload_n (pc' := 60) (dAt D235 37 rfl) rfl rfl ?_
    refine e_getfield (pc' := 63) (dAt D235 38 rfl) rfl rfl hOx0 (hT.own hOx0 28 rfl) ?_
    refine e_iconst (pc' := 64) (v := 3) (dAt D235 39 rfl) rfl (by decide) ?_
    refine e_iload_n (pc' := 65) (dAt D235 40 rfl) rfl rfl ?_
    refine e_imul (pc' := 66) (dAt D235 41 rfl) rfl ?_
    refine e_iload_n (pc' := 67) (dAt D235 42 rfl) rfl rfl ?_
    refine e_iadd (pc' := 68) (dAt D235 43 rfl) rfl ?_
    refine e_aload_n (pc' := 69) (dAt D235 44 rfl) rfl rfl ?_
    refine e_getfield (pc' := 72) (dAt D235 45 rfl) rfl rfl hOx0 (hT.own hOx0 39 rfl) ?_
    refine e_iload_n (pc' := 73) (dAt D235 46 rfl) rfl rfl ?_
    obtain ⟨f1, h⟩ := h
    refine e_iaload (pc' := 74) (dAt D235 47 rfl) rfl (hT.arr hOx0 39 rfl (by decide)).1 (Or.inl (hT.arr hOx0 39 rfl (by decide)).2) f1 rfl ?_
    obtain ⟨f1, h⟩ := h
    replace h := h _ rfl
    refine e_iastore (pc' := 75) (dAt D235 48 rfl) rfl (hT.arr hOx0 28 rfl (by decide)).1 (hT.arr hOx0 28 rfl (by decide)).2 f1 (nar_i _) ?_
    refine wtI hT (fun hT_2 => ?_)
    refine e_aload_n (pc' := 76) (dAt D235 49 rfl) rfl rfl ?_
    refine e_getfield (pc' := 79) (dAt D235 50 rfl) rfl rfl hOx0 (hT_2.own hOx0 30 rfl) ?_
    refine e_iload_n (pc' := 80) (dAt D235 51 rfl) rfl rfl ?_
    refine e_dup2 (pc' := 81) (dAt D235 52 rfl) rfl ⟨rfl, rfl⟩ ?_
    obtain ⟨f1, h⟩ := h
    refine e_iaload (pc' := 82) (dAt D235 53 rfl) rfl (hT_2.arr hOx0 30 rfl (by decide)).1 (Or.inl (hT_2.arr hOx0 30 rfl (by decide)).2) f1 rfl ?_
    refine e_aload_n (pc' := 83) (dAt D235 54 rfl) rfl rfl ?_
    refine e_aload_n (pc' := 84) (dAt D235 55 rfl) rfl rfl ?_
    refine e_getfield (pc' := 87) (dAt D235 56 rfl) rfl rfl hOx0 (hT_2.own hOx0 39 rfl) ?_
    refine e_iload_n (pc' := 88) (dAt D235 57 rfl) rfl rfl ?_
    obtain ⟨f1, h⟩ := h
    refine e_iaload (pc' := 89) (dAt D235 58 rfl) rfl (hT_2.arr hOx0 39 rfl (by decide)).1 (Or.inl (hT_2.arr hOx0 39 rfl (by decide)).2) f1 rfl ?_
    exact e_call2 h (dAt D235 59 rfl) (hi0 rfl) rfl G230 (by decide) rfl (Nat.le_of_ble_eq_true rfl) (kV hOx0 rfl rfl) rfl rfl
-- PlaceNetsModel.addEvent.()V, from 92
set_option maxRecDepth 20000 in
theorem bk235_92 {d b : Nat} {Q : Option Value → mMem → Prop} {m : mMem} {x0 : Nat} {x1 : Int32} {x2 : Int32} {x3 : Option Value} {x4 : Option Value} {y0 : Nat} {ly0 : Nat} {y1 : Int32} {y2 : Int32} {y3 : Int32} (hT : mWT m) (hOx0 : m.1 x0 = some (.inr 8) ∧ x0 ≠ 0) (hAy0 : m.1 y0 = some (.inl (.int, ly0)) ∧ y0 ≠ 0)
    (h : (mIn y1 ly0 = true) ∧ (∀ (m_1 : mMem), m_1 = (mSetI m y0 (upd (m.2.2.1 y0) y1.toNatClampNeg (y2 ||| y3))) → (mIn x1 31 = true) ∧ ((mIn x2 3 = true) ∧ ((mIn (m_1.2.2.1 (64 * x0 + 40) x2.toNatClampNeg) 81 = true) ∧ ((mIn x1 31 = true) ∧ (∀ (m_3 : mMem), m_3 = (mSetI m_1 (64 * x0 + 34) (upd (m_1.2.2.1 (64 * x0 + 34)) x1.toNatClampNeg ((m_1.2.2.1 (64 * x0 + 34) x1.toNatClampNeg) ||| (m_1.2.2.1 (64 * x0 + 37) (m_1.2.2.1 (64 * x0 + 40) x2.toNatClampNeg).toNatClampNeg)))) → ∀ (v_5 : Int32), v_5 = (x2 + 1) → mEs d 235 b g235 (51, [some (.ref x0), some (.int x1), some (.int v_5), x3, x4], [], m_3) Q)))))) :
    mEs d 235 b g235 (92, [some (.ref x0), some (.int x1), some (.int x2), x3, x4], [.int y3, .int y2, .int y1, .ref y0], m) Q := by
  refine e_ior (pc' := 93) (dAt D235 60 rfl) rfl ?_
  obtain ⟨f1, h⟩ := h
  replace h := h _ rfl
  refine e_iastore (pc' := 94) (dAt D235 61 rfl) rfl hAy0.1 hAy0.2 f1 (nar_i _) ?_
  refine wtI hT (fun hT_2 => ?_)
  refine e_aload_n (pc' := 95) (dAt D235 62 rfl) rfl rfl ?_
  refine e_getfield (pc' := 98) (dAt D235 63 rfl) rfl rfl hOx0 (hT_2.own hOx0 33 rfl) ?_
  refine e_iload_n (pc' := 99) (dAt D235 64 rfl) rfl rfl ?_
  refine e_dup2 (pc' := 100) (dAt D235 65 rfl) rfl ⟨rfl, rfl⟩ ?_
  obtain ⟨f1, h⟩ := h
  refine e_iaload (pc' := 101) (dAt D235 66 rfl) rfl (hT_2.arr hOx0 33 rfl (by decide)).1 (Or.inl (hT_2.arr hOx0 33 rfl (by decide)).2) f1 rfl ?_
  refine e_aload_n (pc' := 102) (dAt D235 67 rfl) rfl rfl ?_
  refine e_getfield (pc' := 105) (dAt D235 68 rfl) rfl rfl hOx0 (hT_2.own hOx0 36 rfl) ?_
  refine e_aload_n (pc' := 106) (dAt D235 69 rfl) rfl rfl ?_
  refine e_getfield (pc' := 109) (dAt D235 70 rfl) rfl rfl hOx0 (hT_2.own hOx0 39 rfl) ?_
  refine e_iload_n (pc' := 110) (dAt D235 71 rfl) rfl rfl ?_
  obtain ⟨f1, h⟩ := h
  refine e_iaload (pc' := 111) (dAt D235 72 rfl) rfl (hT_2.arr hOx0 39 rfl (by decide)).1 (Or.inl (hT_2.arr hOx0 39 rfl (by decide)).2) f1 rfl ?_
  obtain ⟨f1, h⟩ := h
  refine e_iaload (pc' := 112) (dAt D235 73 rfl) rfl (hT_2.arr hOx0 36 rfl (by decide)).1 (Or.inl (hT_2.arr hOx0 36 rfl (by decide)).2) f1 rfl ?_
  refine e_ior (pc' := 113) (dAt D235 74 rfl) rfl ?_
  obtain ⟨f1, h⟩ := h
  replace h := h _ rfl
  refine e_iastore (pc' := 114) (dAt D235 75 rfl) rfl (hT_2.arr hOx0 33 rfl (by decide)).1 (hT_2.arr hOx0 33 rfl (by decide)).2 f1 (nar_i _) ?_
  refine wtI hT_2 (fun hT_4 => ?_)
  replace h := h _ rfl
  refine e_iinc (pc' := 117) (dAt D235 76 rfl) rfl rfl (Nat.le_of_ble_eq_true rfl) (congrArg (_ + ·) (show Int32.ofInt (1) = (1 : Int32) by decide)) rfl ?_
  refine e_goto (t := 51) (dAt D235 77 rfl) ⟨by decide, by decide⟩ ?_
  exact h
-- PlaceNetsModel.addEvent.()V, from 122
set_option maxRecDepth 20000 in
theorem bk235_122 {d b : Nat} {Q : Option Value → mMem → Prop} {m : mMem} {x0 : Nat} {x1 : Int32} {x2 : Int32} {x3 : Option Value} {x4 : Option Value} (hT : mWT m) (hOx0 : m.1 x0 = some (.inr 8) ∧ x0 ≠ 0)
    (h : ((((iF m x0 60) ≤ x2) → (mEs d 235 b g235 (155, [some (.ref x0), some (.int x1), some (.int 0), x3, x4], [], m) Q)) ∧ (¬ ((iF m x0 60) ≤ x2) → ((mIn x2 3 = true) ∧ ((mIn (m.2.2.1 (64 * x0 + 40) x2.toNatClampNeg) 81 = true) ∧ ((mIn (m.2.2.1 (64 * x0 + 40) x2.toNatClampNeg) 81 = true) ∧ (∀ (m_1 : mMem), m_1 = (mSetI m (64 * x0 + 37) (upd (m.2.2.1 (64 * x0 + 37)) (m.2.2.1 (64 * x0 + 40) x2.toNatClampNeg).toNatClampNeg ((m.2.2.1 (64 * x0 + 37) (m.2.2.1 (64 * x0 + 40) x2.toNatClampNeg).toNatClampNeg) ||| ((1 : Int32) <<< (x1 &&& 31))))) → ∀ (v_3 : Int32), v_3 = (x2 + 1) → mEs d 235 b g235 (122, [some (.ref x0), some (.int x1), some (.int v_3), x3, x4], [], m_1) Q))))))) :
    mEs d 235 b g235 (122, [some (.ref x0), some (.int x1), some (.int x2), x3, x4], [], m) Q := by
  refine e_iload_n (pc' := 123) (dAt D235 80 rfl) rfl rfl ?_
  refine e_aload_n (pc' := 124) (dAt D235 81 rfl) rfl rfl ?_
  refine e_getfield (pc' := 127) (dAt D235 82 rfl) rfl rfl hOx0 (hT.int hOx0 60 (by decide)) ?_
  refine e_icmp_ge (t := 153) (pc' := 130) (dAt D235 83 rfl) ⟨by decide, by decide⟩ rfl (fun c => ?_) (fun c => ?_)
  · replace h := h.1 c
    refine e_iconst (pc' := 154) (v := 0) (dAt D235 99 rfl) rfl (by decide) ?_
    refine e_istore_n (pc' := 155) (dAt D235 100 rfl) rfl (Nat.le_of_ble_eq_true rfl) rfl ?_
    exact h
  · replace h := h.2 c
    refine e_aload_n (pc' := 131) (dAt D235 84 rfl) rfl rfl ?_
    refine e_getfield (pc' := 134) (dAt D235 85 rfl) rfl rfl hOx0 (hT.own hOx0 36 rfl) ?_
    refine e_aload_n (pc' := 135) (dAt D235 86 rfl) rfl rfl ?_
    refine e_getfield (pc' := 138) (dAt D235 87 rfl) rfl rfl hOx0 (hT.own hOx0 39 rfl) ?_
    refine e_iload_n (pc' := 139) (dAt D235 88 rfl) rfl rfl ?_
    obtain ⟨f1, h⟩ := h
    refine e_iaload (pc' := 140) (dAt D235 89 rfl) rfl (hT.arr hOx0 39 rfl (by decide)).1 (Or.inl (hT.arr hOx0 39 rfl (by decide)).2) f1 rfl ?_
    refine e_dup2 (pc' := 141) (dAt D235 90 rfl) rfl ⟨rfl, rfl⟩ ?_
    obtain ⟨f1, h⟩ := h
    refine e_iaload (pc' := 142) (dAt D235 91 rfl) rfl (hT.arr hOx0 36 rfl (by decide)).1 (Or.inl (hT.arr hOx0 36 rfl (by decide)).2) f1 rfl ?_
    refine e_iconst (pc' := 143) (v := 1) (dAt D235 92 rfl) rfl (by decide) ?_
    refine e_iload_n (pc' := 144) (dAt D235 93 rfl) rfl rfl ?_
    refine e_ishl (pc' := 145) (dAt D235 94 rfl) rfl ?_
    refine e_ior (pc' := 146) (dAt D235 95 rfl) rfl ?_
    obtain ⟨f1, h⟩ := h
    replace h := h _ rfl
    refine e_iastore (pc' := 147) (dAt D235 96 rfl) rfl (hT.arr hOx0 36 rfl (by decide)).1 (hT.arr hOx0 36 rfl (by decide)).2 f1 (nar_i _) ?_
    refine wtI hT (fun hT_2 => ?_)
    replace h := h _ rfl
    refine e_iinc (pc' := 150) (dAt D235 97 rfl) rfl rfl (Nat.le_of_ble_eq_true rfl) (congrArg (_ + ·) (show Int32.ofInt (1) = (1 : Int32) by decide)) rfl ?_
    refine e_goto (t := 122) (dAt D235 98 rfl) ⟨by decide, by decide⟩ ?_
    exact h
-- PlaceNetsModel.addEvent.()V, from 155
set_option maxRecDepth 20000 in
theorem bk235_155 {d b : Nat} {Q : Option Value → mMem → Prop} {m : mMem} {x0 : Nat} {x1 : Int32} {x2 : Int32} {x3 : Option Value} {x4 : Option Value} (hT : mWT m) (hOx0 : m.1 x0 = some (.inr 8) ∧ x0 ≠ 0)
    (h : (((x1 ≤ x2) → (∀ (m_1 : mMem), m_1 = (mSetF m x0 47 (.int ((iF m x0 47) + 1))) → mEs d 235 b g235 (208, [some (.ref x0), some (.int x1), some (.int 0), x3, x4], [], m_1) Q)) ∧ (¬ (x1 ≤ x2) → ((mIn x2 31 = true) ∧ ((mIn x1 31 = true) ∧ (((¬ (((m.2.2.1 (64 * x0 + 34) x1.toNatClampNeg) >>> (x2 &&& 31)) &&& 1) = 1) → ((mIn x2 31 = true) ∧ (∀ (m_3 : mMem), m_3 = (mSetI m (64 * x0 + 34) (upd (m.2.2.1 (64 * x0 + 34)) x2.toNatClampNeg ((m.2.2.1 (64 * x0 + 34) x2.toNatClampNeg) ||| 0))) → ∀ (v_5 : Int32), v_5 = (x2 + 1) → mEs d 235 b g235 (155, [some (.ref x0), some (.int x1), some (.int v_5), x3, x4], [], m_3) Q))) ∧ (¬ (¬ (((m.2.2.1 (64 * x0 + 34) x1.toNatClampNeg) >>> (x2 &&& 31)) &&& 1) = 1) → ((mIn x2 31 = true) ∧ (∀ (m_6 : mMem), m_6 = (mSetI m (64 * x0 + 34) (upd (m.2.2.1 (64 * x0 + 34)) x2.toNatClampNeg ((m.2.2.1 (64 * x0 + 34) x2.toNatClampNeg) ||| ((1 : Int32) <<< (x1 &&& 31))))) → ∀ (v_8 : Int32), v_8 = (x2 + 1) → mEs d 235 b g235 (155, [some (.ref x0), some (.int x1), some (.int v_8), x3, x4], [], m_6) Q))))))))) :
    mEs d 235 b g235 (155, [some (.ref x0), some (.int x1), some (.int x2), x3, x4], [], m) Q := by
  refine e_iload_n (pc' := 156) (dAt D235 101 rfl) rfl rfl ?_
  refine e_iload_n (pc' := 157) (dAt D235 102 rfl) rfl rfl ?_
  refine e_icmp_ge (t := 196) (pc' := 160) (dAt D235 103 rfl) ⟨by decide, by decide⟩ rfl (fun c => ?_) (fun c => ?_)
  · replace h := h.1 c
    refine e_aload_n (pc' := 197) (dAt D235 128 rfl) rfl rfl ?_
    refine e_dup (pc' := 198) (dAt D235 129 rfl) rfl rfl ?_
    refine e_getfield (pc' := 201) (dAt D235 130 rfl) rfl rfl hOx0 (hT.int hOx0 47 (by decide)) ?_
    refine e_iconst (pc' := 202) (v := 1) (dAt D235 131 rfl) rfl (by decide) ?_
    refine e_iadd (pc' := 203) (dAt D235 132 rfl) rfl ?_
    replace h := h _ rfl
    refine e_putfield (pc' := 206) (dAt D235 133 rfl) rfl rfl hOx0 rfl rfl (fun e => by cases e) ?_
    refine wtF hT hOx0 (by decide) (fun hT_2 => ?_)
    refine e_iconst (pc' := 207) (v := 0) (dAt D235 134 rfl) rfl (by decide) ?_
    refine e_istore_n (pc' := 208) (dAt D235 135 rfl) rfl (Nat.le_of_ble_eq_true rfl) rfl ?_
    exact h
  · replace h := h.2 c
    refine e_aload_n (pc' := 161) (dAt D235 104 rfl) rfl rfl ?_
    refine e_getfield (pc' := 164) (dAt D235 105 rfl) rfl rfl hOx0 (hT.own hOx0 33 rfl) ?_
    refine e_iload_n (pc' := 165) (dAt D235 106 rfl) rfl rfl ?_
    refine e_dup2 (pc' := 166) (dAt D235 107 rfl) rfl ⟨rfl, rfl⟩ ?_
    obtain ⟨f1, h⟩ := h
    refine e_iaload (pc' := 167) (dAt D235 108 rfl) rfl (hT.arr hOx0 33 rfl (by decide)).1 (Or.inl (hT.arr hOx0 33 rfl (by decide)).2) f1 rfl ?_
    refine e_aload_n (pc' := 168) (dAt D235 109 rfl) rfl rfl ?_
    refine e_getfield (pc' := 171) (dAt D235 110 rfl) rfl rfl hOx0 (hT.own hOx0 33 rfl) ?_
    refine e_iload_n (pc' := 172) (dAt D235 111 rfl) rfl rfl ?_
    obtain ⟨f1, h⟩ := h
    refine e_iaload (pc' := 173) (dAt D235 112 rfl) rfl (hT.arr hOx0 33 rfl (by decide)).1 (Or.inl (hT.arr hOx0 33 rfl (by decide)).2) f1 rfl ?_
    refine e_iload_n (pc' := 174) (dAt D235 113 rfl) rfl rfl ?_
    refine e_ishr (pc' := 175) (dAt D235 114 rfl) rfl ?_
    refine e_iconst (pc' := 176) (v := 1) (dAt D235 115 rfl) rfl (by decide) ?_
    refine e_iand (pc' := 177) (dAt D235 116 rfl) rfl ?_
    refine e_iconst (pc' := 178) (v := 1) (dAt D235 117 rfl) rfl (by decide) ?_
    refine e_icmp_ne (t := 187) (pc' := 181) (dAt D235 118 rfl) ⟨by decide, by decide⟩ rfl (fun c => ?_) (fun c => ?_)
    · replace h := h.1 c
      refine e_iconst (pc' := 188) (v := 0) (dAt D235 123 rfl) rfl (by decide) ?_
      refine e_ior (pc' := 189) (dAt D235 124 rfl) rfl ?_
      obtain ⟨f1, h⟩ := h
      replace h := h _ rfl
      refine e_iastore (pc' := 190) (dAt D235 125 rfl) rfl (hT.arr hOx0 33 rfl (by decide)).1 (hT.arr hOx0 33 rfl (by decide)).2 f1 (nar_i _) ?_
      refine wtI hT (fun hT_4 => ?_)
      replace h := h _ rfl
      refine e_iinc (pc' := 193) (dAt D235 126 rfl) rfl rfl (Nat.le_of_ble_eq_true rfl) (congrArg (_ + ·) (show Int32.ofInt (1) = (1 : Int32) by decide)) rfl ?_
      refine e_goto (t := 155) (dAt D235 127 rfl) ⟨by decide, by decide⟩ ?_
      exact h
    · replace h := h.2 c
      refine e_iconst (pc' := 182) (v := 1) (dAt D235 119 rfl) rfl (by decide) ?_
      refine e_iload_n (pc' := 183) (dAt D235 120 rfl) rfl rfl ?_
      refine e_ishl (pc' := 184) (dAt D235 121 rfl) rfl ?_
      refine e_goto (t := 188) (dAt D235 122 rfl) ⟨by decide, by decide⟩ ?_
      refine e_ior (pc' := 189) (dAt D235 124 rfl) rfl ?_
      obtain ⟨f1, h⟩ := h
      replace h := h _ rfl
      refine e_iastore (pc' := 190) (dAt D235 125 rfl) rfl (hT.arr hOx0 33 rfl (by decide)).1 (hT.arr hOx0 33 rfl (by decide)).2 f1 (nar_i _) ?_
      refine wtI hT (fun hT_7 => ?_)
      replace h := h _ rfl
      refine e_iinc (pc' := 193) (dAt D235 126 rfl) rfl rfl (Nat.le_of_ble_eq_true rfl) (congrArg (_ + ·) (show Int32.ofInt (1) = (1 : Int32) by decide)) rfl ?_
      refine e_goto (t := 155) (dAt D235 127 rfl) ⟨by decide, by decide⟩ ?_
      exact h
-- PlaceNetsModel.addEvent.()V, from 208
set_option maxRecDepth 20000 in
theorem bk235_208 {d b : Nat} {Q : Option Value → mMem → Prop} {m : mMem} {x0 : Nat} {x1 : Int32} {x2 : Int32} {x3 : Option Value} {x4 : Option Value} (hT : mWT m) (hOx0 : m.1 x0 = some (.inr 8) ∧ x0 ≠ 0)
    (h : ((((iF m x0 6) ≤ x2) → (mEv d 236 [.ref x0, .int x1] m (fun r m' => mEs d 235 b g235 (316, [some (.ref x0), some (.int x1), some (.int x2), x3, x4], r.toList ++ [.int x1, .ref (64 * x0 + 32)], m') Q))) ∧ (¬ ((iF m x0 6) ≤ x2) → ((mIn x2 10 = true) ∧ (∀ (v_1 : Int32), v_1 = (m.2.2.1 (64 * x0 + 4) x2.toNatClampNeg) → mEs d 235 b g235 (226, [some (.ref x0), some (.int x1), some (.int x2), some (.int v_1), some (.int 0)], [], m) Q))))) :
    mEs d 235 b g235 (208, [some (.ref x0), some (.int x1), some (.int x2), x3, x4], [], m) Q := by
  refine e_iload_n (pc' := 209) (dAt D235 136 rfl) rfl rfl ?_
  refine e_aload_n (pc' := 210) (dAt D235 137 rfl) rfl rfl ?_
  refine e_getfield (pc' := 213) (dAt D235 138 rfl) rfl rfl hOx0 (hT.int hOx0 6 (by decide)) ?_
  refine e_icmp_ge (t := 306) (pc' := 216) (dAt D235 139 rfl) ⟨by decide, by decide⟩ rfl (fun c => ?_) (fun c => ?_)
  · replace h := h.1 c
    refine e_aload_n (pc' := 307) (dAt D235 194 rfl) rfl rfl ?_
    refine e_getfield (pc' := 310) (dAt D235 195 rfl) rfl rfl hOx0 (hT.own hOx0 31 rfl) ?_
    refine e_iload_n (pc' := 311) (dAt D235 196 rfl) rfl rfl ?_
    refine e_aload_n (pc' := 312) (dAt D235 197 rfl) rfl rfl ?_
    refine e_iload_n (pc' := 313) (dAt D235 198 rfl) rfl rfl ?_
    exact e_call2 h (dAt D235 199 rfl) (hi0 rfl) rfl G236 (by decide) rfl (Nat.le_of_ble_eq_true rfl) (kV hOx0 rfl rfl) rfl rfl
  · replace h := h.2 c
    refine e_aload_n (pc' := 217) (dAt D235 140 rfl) rfl rfl ?_
    refine e_getfield (pc' := 220) (dAt D235 141 rfl) rfl rfl hOx0 (hT.own hOx0 3 rfl) ?_
    refine e_iload_n (pc' := 221) (dAt D235 142 rfl) rfl rfl ?_
    obtain ⟨f1, h⟩ := h
    refine e_iaload (pc' := 222) (dAt D235 143 rfl) rfl (hT.arr hOx0 3 rfl (by decide)).1 (Or.inl (hT.arr hOx0 3 rfl (by decide)).2) f1 rfl ?_
    replace h := h _ rfl
    refine e_istore_n (pc' := 223) (dAt D235 144 rfl) rfl (Nat.le_of_ble_eq_true rfl) rfl ?_
    refine e_iconst (pc' := 224) (v := 0) (dAt D235 145 rfl) rfl (by decide) ?_
    refine e_istore (pc' := 226) (dAt D235 146 rfl) rfl (Nat.le_of_ble_eq_true rfl) rfl ?_
    exact h
-- PlaceNetsModel.addEvent.()V, from 226
set_option maxRecDepth 20000 in
theorem bk235_226 {d b : Nat} {Q : Option Value → mMem → Prop} {m : mMem} {x0 : Nat} {x1 : Int32} {x2 : Int32} {x3 : Int32} {x4 : Int32} (hT : mWT m) (hOx0 : m.1 x0 = some (.inr 8) ∧ x0 ≠ 0)
    (h : ((((iF m x0 47) ≤ x4) → ((mIn ((10 * x1) + x2) 310 = true) ∧ (∀ (m_1 : mMem), m_1 = (mSetI m (64 * x0 + 33) (upd (m.2.2.1 (64 * x0 + 33)) ((10 * x1) + x2).toNatClampNeg x3)) → ∀ (v_3 : Int32), v_3 = (x2 + 1) → mEs d 235 b g235 (208, [some (.ref x0), some (.int x1), some (.int v_3), some (.int x3), some (.int x4)], [], m_1) Q))) ∧ (¬ ((iF m x0 47) ≤ x4) → ((mIn x1 31 = true) ∧ (((¬ (((m.2.2.1 (64 * x0 + 31) x1.toNatClampNeg) >>> (x4 &&& 31)) &&& 1) = 1) → (∀ (v_4 : Int32), v_4 = (x3 + 0) → ∀ (v_5 : Int32), v_5 = (x4 + 1) → mEs d 235 b g235 (226, [some (.ref x0), some (.int x1), some (.int x2), some (.int v_4), some (.int v_5)], [], m) Q)) ∧ (¬ (¬ (((m.2.2.1 (64 * x0 + 31) x1.toNatClampNeg) >>> (x4 &&& 31)) &&& 1) = 1) → ((mIn x4 31 = true) ∧ (mEv d 163 [.ref x0, .int (m.2.2.1 (64 * x0 + 28) x4.toNatClampNeg), .int x2] m (fun r m' => mEs d 235 b g235 (263, [some (.ref x0), some (.int x1), some (.int x2), some (.int x3), some (.int x4)], r.toList ++ [.int x3], m') Q))))))))) :
    mEs d 235 b g235 (226, [some (.ref x0), some (.int x1), some (.int x2), some (.int x3), some (.int x4)], [], m) Q := by
  refine e_iload (pc' := 228) (dAt D235 147 rfl) rfl rfl ?_
  refine e_aload_n (pc' := 229) (dAt D235 148 rfl) rfl rfl ?_
  refine e_getfield (pc' := 232) (dAt D235 149 rfl) rfl rfl hOx0 (hT.int hOx0 47 (by decide)) ?_
  refine e_icmp_ge (t := 288) (pc' := 235) (dAt D235 150 rfl) ⟨by decide, by decide⟩ rfl (fun c => ?_) (fun c => ?_)
  · replace h := h.1 c
    refine e_aload_n (pc' := 289) (dAt D235 183 rfl) rfl rfl ?_
    refine e_getfield (pc' := 292) (dAt D235 184 rfl) rfl rfl hOx0 (hT.own hOx0 32 rfl) ?_
    refine e_bipush (pc' := 294) (v := 10) (dAt D235 185 rfl) rfl (by decide) ?_
    refine e_iload_n (pc' := 295) (dAt D235 186 rfl) rfl rfl ?_
    refine e_imul (pc' := 296) (dAt D235 187 rfl) rfl ?_
    refine e_iload_n (pc' := 297) (dAt D235 188 rfl) rfl rfl ?_
    refine e_iadd (pc' := 298) (dAt D235 189 rfl) rfl ?_
    refine e_iload_n (pc' := 299) (dAt D235 190 rfl) rfl rfl ?_
    obtain ⟨f1, h⟩ := h
    replace h := h _ rfl
    refine e_iastore (pc' := 300) (dAt D235 191 rfl) rfl (hT.arr hOx0 32 rfl (by decide)).1 (hT.arr hOx0 32 rfl (by decide)).2 f1 (nar_i _) ?_
    refine wtI hT (fun hT_2 => ?_)
    replace h := h _ rfl
    refine e_iinc (pc' := 303) (dAt D235 192 rfl) rfl rfl (Nat.le_of_ble_eq_true rfl) (congrArg (_ + ·) (show Int32.ofInt (1) = (1 : Int32) by decide)) rfl ?_
    refine e_goto (t := 208) (dAt D235 193 rfl) ⟨by decide, by decide⟩ ?_
    exact h
  · replace h := h.2 c
    refine e_iload_n (pc' := 236) (dAt D235 151 rfl) rfl rfl ?_
    refine e_aload_n (pc' := 237) (dAt D235 152 rfl) rfl rfl ?_
    refine e_getfield (pc' := 240) (dAt D235 153 rfl) rfl rfl hOx0 (hT.own hOx0 30 rfl) ?_
    refine e_iload_n (pc' := 241) (dAt D235 154 rfl) rfl rfl ?_
    obtain ⟨f1, h⟩ := h
    refine e_iaload (pc' := 242) (dAt D235 155 rfl) rfl (hT.arr hOx0 30 rfl (by decide)).1 (Or.inl (hT.arr hOx0 30 rfl (by decide)).2) f1 rfl ?_
    refine e_iload (pc' := 244) (dAt D235 156 rfl) rfl rfl ?_
    refine e_ishr (pc' := 245) (dAt D235 157 rfl) rfl ?_
    refine e_iconst (pc' := 246) (v := 1) (dAt D235 158 rfl) rfl (by decide) ?_
    refine e_iand (pc' := 247) (dAt D235 159 rfl) rfl ?_
    refine e_iconst (pc' := 248) (v := 1) (dAt D235 160 rfl) rfl (by decide) ?_
    refine e_icmp_ne (t := 279) (pc' := 251) (dAt D235 161 rfl) ⟨by decide, by decide⟩ rfl (fun c => ?_) (fun c => ?_)
    · replace h := h.1 c
      refine e_iconst (pc' := 280) (v := 0) (dAt D235 178 rfl) rfl (by decide) ?_
      refine e_iadd (pc' := 281) (dAt D235 179 rfl) rfl ?_
      replace h := h _ rfl
      refine e_istore_n (pc' := 282) (dAt D235 180 rfl) rfl (Nat.le_of_ble_eq_true rfl) rfl ?_
      replace h := h _ rfl
      refine e_iinc (pc' := 285) (dAt D235 181 rfl) rfl rfl (Nat.le_of_ble_eq_true rfl) (congrArg (_ + ·) (show Int32.ofInt (1) = (1 : Int32) by decide)) rfl ?_
      refine e_goto (t := 226) (dAt D235 182 rfl) ⟨by decide, by decide⟩ ?_
      exact h
    · replace h := h.2 c
      refine e_aload_n (pc' := 252) (dAt D235 162 rfl) rfl rfl ?_
      refine e_aload_n (pc' := 253) (dAt D235 163 rfl) rfl rfl ?_
      refine e_getfield (pc' := 256) (dAt D235 164 rfl) rfl rfl hOx0 (hT.own hOx0 27 rfl) ?_
      refine e_iload (pc' := 258) (dAt D235 165 rfl) rfl rfl ?_
      obtain ⟨f1, h⟩ := h
      refine e_iaload (pc' := 259) (dAt D235 166 rfl) rfl (hT.arr hOx0 27 rfl (by decide)).1 (Or.inl (hT.arr hOx0 27 rfl (by decide)).2) f1 rfl ?_
      refine e_iload_n (pc' := 260) (dAt D235 167 rfl) rfl rfl ?_
      exact e_call2 h (dAt D235 168 rfl) (hi0 rfl) rfl G163 (by decide) rfl (Nat.le_of_ble_eq_true rfl) (kV hOx0 rfl rfl) rfl rfl
-- PlaceNetsModel.addEvent.()V, from 263
set_option maxRecDepth 20000 in
theorem bk235_263 {d b : Nat} {Q : Option Value → mMem → Prop} {m : mMem} {x0 : Nat} {x1 : Int32} {x2 : Int32} {x3 : Int32} {x4 : Int32} {y0 : Int32} {y1 : Int32} (hT : mWT m) (hOx0 : m.1 x0 = some (.inr 8) ∧ x0 ≠ 0)
    (h : (mIn x4 31 = true) ∧ (mEv d 162 [.ref x0, .int (m.2.2.1 (64 * x0 + 28) x4.toNatClampNeg), .int x2] m (fun r m' => mEs d 235 b g235 (275, [some (.ref x0), some (.int x1), some (.int x2), some (.int x3), some (.int x4)], r.toList ++ [.int y1, .int y0], m') Q))) :
    mEs d 235 b g235 (263, [some (.ref x0), some (.int x1), some (.int x2), some (.int x3), some (.int x4)], [.int y1, .int y0], m) Q := by
  refine e_aload_n (pc' := 264) (dAt D235 169 rfl) rfl rfl ?_
  refine e_aload_n (pc' := 265) (dAt D235 170 rfl) rfl rfl ?_
  refine e_getfield (pc' := 268) (dAt D235 171 rfl) rfl rfl hOx0 (hT.own hOx0 27 rfl) ?_
  refine e_iload (pc' := 270) (dAt D235 172 rfl) rfl rfl ?_
  obtain ⟨f1, h⟩ := h
  refine e_iaload (pc' := 271) (dAt D235 173 rfl) rfl (hT.arr hOx0 27 rfl (by decide)).1 (Or.inl (hT.arr hOx0 27 rfl (by decide)).2) f1 rfl ?_
  refine e_iload_n (pc' := 272) (dAt D235 174 rfl) rfl rfl ?_
  exact e_call2 h (dAt D235 175 rfl) (hi0 rfl) rfl G162 (by decide) rfl (Nat.le_of_ble_eq_true rfl) (kV hOx0 rfl rfl) rfl rfl
-- PlaceNetsModel.addEvent.()V, from 275
set_option maxRecDepth 20000 in
theorem bk235_275 {d b : Nat} {Q : Option Value → mMem → Prop} {m : mMem} {x0 : Nat} {x1 : Int32} {x2 : Int32} {x3 : Int32} {x4 : Int32} {y0 : Int32} {y1 : Int32} {y2 : Int32} (hT : mWT m) (hOx0 : m.1 x0 = some (.inr 8) ∧ x0 ≠ 0)
    (h : ∀ (v_1 : Int32), v_1 = (y0 + (y1 - y2)) → ∀ (v_2 : Int32), v_2 = (x4 + 1) → mEs d 235 b g235 (226, [some (.ref x0), some (.int x1), some (.int x2), some (.int v_1), some (.int v_2)], [], m) Q) :
    mEs d 235 b g235 (275, [some (.ref x0), some (.int x1), some (.int x2), some (.int x3), some (.int x4)], [.int y2, .int y1, .int y0], m) Q := by
  refine e_isub (pc' := 276) (dAt D235 176 rfl) rfl ?_
  refine e_goto (t := 280) (dAt D235 177 rfl) ⟨by decide, by decide⟩ ?_
  refine e_iadd (pc' := 281) (dAt D235 179 rfl) rfl ?_
  replace h := h _ rfl
  refine e_istore_n (pc' := 282) (dAt D235 180 rfl) rfl (Nat.le_of_ble_eq_true rfl) rfl ?_
  replace h := h _ rfl
  refine e_iinc (pc' := 285) (dAt D235 181 rfl) rfl rfl (Nat.le_of_ble_eq_true rfl) (congrArg (_ + ·) (show Int32.ofInt (1) = (1 : Int32) by decide)) rfl ?_
  refine e_goto (t := 226) (dAt D235 182 rfl) ⟨by decide, by decide⟩ ?_
  exact h
-- PlaceNetsModel.addEvent.()V, from 316
set_option maxRecDepth 20000 in
theorem bk235_316 {d b : Nat} {Q : Option Value → mMem → Prop} {m : mMem} {x0 : Nat} {x1 : Int32} {x2 : Int32} {x3 : Option Value} {x4 : Option Value} {y0 : Nat} {ly0 : Nat} {y1 : Int32} {y2 : Int32} (hT : mWT m) (hOx0 : m.1 x0 = some (.inr 8) ∧ x0 ≠ 0) (hAy0 : m.1 y0 = some (.inl (.boolean, ly0)) ∧ y0 ≠ 0)
    (h : (mIn y1 ly0 = true) ∧ ((y2 = 0 ∨ y2 = 1) ∧ (∀ (m_1 : mMem), m_1 = (mSetI m y0 (upd (m.2.2.1 y0) y1.toNatClampNeg y2)) → mEs d 235 b g235 (319, [some (.ref x0), some (.int x1), some (.int 0), x3, x4], [], m_1) Q))) :
    mEs d 235 b g235 (316, [some (.ref x0), some (.int x1), some (.int x2), x3, x4], [.int y2, .int y1, .ref y0], m) Q := by
  obtain ⟨f1, h⟩ := h
  obtain ⟨f9, h⟩ := h
  replace h := h _ rfl
  refine e_zastore (pc' := 317) (dAt D235 200 rfl) rfl hAy0.1 hAy0.2 f1 (vz01 f9) ?_
  refine wtI hT (fun hT_2 => ?_)
  refine e_iconst (pc' := 318) (v := 0) (dAt D235 201 rfl) rfl (by decide) ?_
  refine e_istore_n (pc' := 319) (dAt D235 202 rfl) rfl (Nat.le_of_ble_eq_true rfl) rfl ?_
  exact h
-- PlaceNetsModel.addEvent.()V, from 319
set_option maxRecDepth 20000 in
theorem bk235_319 {d b : Nat} {Q : Option Value → mMem → Prop} {m : mMem} {x0 : Nat} {x1 : Int32} {x2 : Int32} {x3 : Option Value} {x4 : Option Value} (hT : mWT m) (hOx0 : m.1 x0 = some (.inr 8) ∧ x0 ≠ 0)
    (h : ((((iF m x0 6) ≤ x2) → (Q none m)) ∧ (¬ ((iF m x0 6) ≤ x2) → (mEs d 235 b g235 (329, [some (.ref x0), some (.int x1), some (.int x2), some (.int 0), x4], [], m) Q)))) :
    mEs d 235 b g235 (319, [some (.ref x0), some (.int x1), some (.int x2), x3, x4], [], m) Q := by
  refine e_iload_n (pc' := 320) (dAt D235 203 rfl) rfl rfl ?_
  refine e_aload_n (pc' := 321) (dAt D235 204 rfl) rfl rfl ?_
  refine e_getfield (pc' := 324) (dAt D235 205 rfl) rfl rfl hOx0 (hT.int hOx0 6 (by decide)) ?_
  refine e_icmp_ge (t := 360) (pc' := 327) (dAt D235 206 rfl) ⟨by decide, by decide⟩ rfl (fun c => ?_) (fun c => ?_)
  · replace h := h.1 c
    exact e_return (dAt D235 224 rfl) rfl h
  · replace h := h.2 c
    refine e_iconst (pc' := 328) (v := 0) (dAt D235 207 rfl) rfl (by decide) ?_
    refine e_istore_n (pc' := 329) (dAt D235 208 rfl) rfl (Nat.le_of_ble_eq_true rfl) rfl ?_
    exact h
-- PlaceNetsModel.addEvent.()V, from 329
set_option maxRecDepth 20000 in
theorem bk235_329 {d b : Nat} {Q : Option Value → mMem → Prop} {m : mMem} {x0 : Nat} {x1 : Int32} {x2 : Int32} {x3 : Int32} {x4 : Option Value} (hT : mWT m) (hOx0 : m.1 x0 = some (.inr 8) ∧ x0 ≠ 0)
    (h : mEv d 163 [.ref x0, .int (iF m x0 63), .int x2] m (fun r m' => mEs d 235 b g235 (339, [some (.ref x0), some (.int x1), some (.int x2), some (.int x3), x4], r.toList ++ [.int x3], m') Q)) :
    mEs d 235 b g235 (329, [some (.ref x0), some (.int x1), some (.int x2), some (.int x3), x4], [], m) Q := by
  refine e_iload_n (pc' := 330) (dAt D235 209 rfl) rfl rfl ?_
  refine e_aload_n (pc' := 331) (dAt D235 210 rfl) rfl rfl ?_
  refine e_aload_n (pc' := 332) (dAt D235 211 rfl) rfl rfl ?_
  refine e_getfield (pc' := 335) (dAt D235 212 rfl) rfl rfl hOx0 (hT.int hOx0 63 (by decide)) ?_
  refine e_iload_n (pc' := 336) (dAt D235 213 rfl) rfl rfl ?_
  exact e_call2 h (dAt D235 214 rfl) (hi0 rfl) rfl G163 (by decide) rfl (Nat.le_of_ble_eq_true rfl) (kV hOx0 rfl rfl) rfl rfl
-- PlaceNetsModel.addEvent.()V, from 339
set_option maxRecDepth 20000 in
theorem bk235_339 {d b : Nat} {Q : Option Value → mMem → Prop} {m : mMem} {x0 : Nat} {x1 : Int32} {x2 : Int32} {x3 : Int32} {x4 : Option Value} {y0 : Int32} {y1 : Int32} (hT : mWT m) (hOx0 : m.1 x0 = some (.inr 8) ∧ x0 ≠ 0)
    (h : (((y1 ≤ y0) → (∀ (v_1 : Int32), v_1 = (x2 + 1) → mEs d 235 b g235 (319, [some (.ref x0), some (.int x1), some (.int v_1), some (.int x3), x4], [], m) Q)) ∧ (¬ (y1 ≤ y0) → (mEv d 225 [.ref x0, .int x2, .int x1] m (fun r m' => mEs d 235 b g235 (348, [some (.ref x0), some (.int x1), some (.int x2), some (.int x3), x4], r.toList ++ [], m') Q))))) :
    mEs d 235 b g235 (339, [some (.ref x0), some (.int x1), some (.int x2), some (.int x3), x4], [.int y1, .int y0], m) Q := by
  refine e_icmp_ge (t := 354) (pc' := 342) (dAt D235 215 rfl) ⟨by decide, by decide⟩ rfl (fun c => ?_) (fun c => ?_)
  · replace h := h.1 c
    replace h := h _ rfl
    refine e_iinc (pc' := 357) (dAt D235 222 rfl) rfl rfl (Nat.le_of_ble_eq_true rfl) (congrArg (_ + ·) (show Int32.ofInt (1) = (1 : Int32) by decide)) rfl ?_
    refine e_goto (t := 319) (dAt D235 223 rfl) ⟨by decide, by decide⟩ ?_
    exact h
  · replace h := h.2 c
    refine e_aload_n (pc' := 343) (dAt D235 216 rfl) rfl rfl ?_
    refine e_iload_n (pc' := 344) (dAt D235 217 rfl) rfl rfl ?_
    refine e_iload_n (pc' := 345) (dAt D235 218 rfl) rfl rfl ?_
    exact e_call2 h (dAt D235 219 rfl) (hi0 rfl) rfl G225 (by decide) rfl (Nat.le_of_ble_eq_true rfl) (kV hOx0 rfl rfl) rfl rfl
-- PlaceNetsModel.addEvent.()V, from 348
set_option maxRecDepth 20000 in
theorem bk235_348 {d b : Nat} {Q : Option Value → mMem → Prop} {m : mMem} {x0 : Nat} {x1 : Int32} {x2 : Int32} {x3 : Int32} {x4 : Option Value} (hT : mWT m) (hOx0 : m.1 x0 = some (.inr 8) ∧ x0 ≠ 0)
    (h : ∀ (v_1 : Int32), v_1 = (x3 + 1) → mEs d 235 b g235 (329, [some (.ref x0), some (.int x1), some (.int x2), some (.int v_1), x4], [], m) Q) :
    mEs d 235 b g235 (348, [some (.ref x0), some (.int x1), some (.int x2), some (.int x3), x4], [], m) Q := by
  replace h := h _ rfl
  refine e_iinc (pc' := 351) (dAt D235 220 rfl) rfl rfl (Nat.le_of_ble_eq_true rfl) (congrArg (_ + ·) (show Int32.ofInt (1) = (1 : Int32) by decide)) rfl ?_
  refine e_goto (t := 329) (dAt D235 221 rfl) ⟨by decide, by decide⟩ ?_
  exact h
-- PlaceNetsModel.isCutOff.(I)Z, from 0
set_option maxRecDepth 20000 in
theorem bk236_0 {d b : Nat} {Q : Option Value → mMem → Prop} {m : mMem} {x0 : Nat} {x1 : Int32} {x2 : Option Value} {x3 : Option Value} {x4 : Option Value} (hT : mWT m) (hOx0 : m.1 x0 = some (.inr 8) ∧ x0 ≠ 0)
    (h : mEs d 236 b g236 (4, [some (.ref x0), some (.int x1), some (.int 1), some (.int 0), x4], [], m) Q) :
    mEs d 236 b g236 (0, [some (.ref x0), some (.int x1), x2, x3, x4], [], m) Q := by
  refine e_iconst (pc' := 1) (v := 1) (dAt D236 0 rfl) rfl (by decide) ?_
  refine e_istore_n (pc' := 2) (dAt D236 1 rfl) rfl (Nat.le_of_ble_eq_true rfl) rfl ?_
  refine e_iconst (pc' := 3) (v := 0) (dAt D236 2 rfl) rfl (by decide) ?_
  refine e_istore_n (pc' := 4) (dAt D236 3 rfl) rfl (Nat.le_of_ble_eq_true rfl) rfl ?_
  exact h
-- PlaceNetsModel.isCutOff.(I)Z, from 4
set_option maxRecDepth 20000 in
theorem bk236_4 {d b : Nat} {Q : Option Value → mMem → Prop} {m : mMem} {x0 : Nat} {x1 : Int32} {x2 : Int32} {x3 : Int32} {x4 : Option Value} (hT : mWT m) (hOx0 : m.1 x0 = some (.inr 8) ∧ x0 ≠ 0)
    (h : ((((iF m x0 6) ≤ x3) → (mEs d 236 b g236 (50, [some (.ref x0), some (.int x1), some (.int x2), some (.int 0), x4], [], m) Q)) ∧ (¬ ((iF m x0 6) ≤ x3) → (((x2 = 0) → (∀ (v_1 : Int32), v_1 = (x3 + 1) → mEs d 236 b g236 (4, [some (.ref x0), some (.int x1), some (.int 0), some (.int v_1), x4], [], m) Q)) ∧ (¬ (x2 = 0) → ((mIn ((10 * x1) + x3) 310 = true) ∧ ((mIn x3 10 = true) ∧ (((¬ (m.2.2.1 (64 * x0 + 33) ((10 * x1) + x3).toNatClampNeg) = (m.2.2.1 (64 * x0 + 4) x3.toNatClampNeg)) → (∀ (v_2 : Int32), v_2 = (x3 + 1) → mEs d 236 b g236 (4, [some (.ref x0), some (.int x1), some (.int 0), some (.int v_2), x4], [], m) Q)) ∧ (¬ (¬ (m.2.2.1 (64 * x0 + 33) ((10 * x1) + x3).toNatClampNeg) = (m.2.2.1 (64 * x0 + 4) x3.toNatClampNeg)) → (∀ (v_3 : Int32), v_3 = (x3 + 1) → mEs d 236 b g236 (4, [some (.ref x0), some (.int x1), some (.int 1), some (.int v_3), x4], [], m) Q)))))))))) :
    mEs d 236 b g236 (4, [some (.ref x0), some (.int x1), some (.int x2), some (.int x3), x4], [], m) Q := by
  refine e_iload_n (pc' := 5) (dAt D236 4 rfl) rfl rfl ?_
  refine e_aload_n (pc' := 6) (dAt D236 5 rfl) rfl rfl ?_
  refine e_getfield (pc' := 9) (dAt D236 6 rfl) rfl rfl hOx0 (hT.int hOx0 6 (by decide)) ?_
  refine e_icmp_ge (t := 48) (pc' := 12) (dAt D236 7 rfl) ⟨by decide, by decide⟩ rfl (fun c => ?_) (fun c => ?_)
  · replace h := h.1 c
    refine e_iconst (pc' := 49) (v := 0) (dAt D236 29 rfl) rfl (by decide) ?_
    refine e_istore_n (pc' := 50) (dAt D236 30 rfl) rfl (Nat.le_of_ble_eq_true rfl) rfl ?_
    exact h
  · replace h := h.2 c
    refine e_iload_n (pc' := 13) (dAt D236 8 rfl) rfl rfl ?_
    refine e_if_eq (t := 40) (pc' := 16) (dAt D236 9 rfl) ⟨by decide, by decide⟩ rfl (fun c => ?_) (fun c => ?_)
    · replace h := h.1 c
      refine e_iconst (pc' := 41) (v := 0) (dAt D236 25 rfl) rfl (by decide) ?_
      refine e_istore_n (pc' := 42) (dAt D236 26 rfl) rfl (Nat.le_of_ble_eq_true rfl) rfl ?_
      replace h := h _ rfl
      refine e_iinc (pc' := 45) (dAt D236 27 rfl) rfl rfl (Nat.le_of_ble_eq_true rfl) (congrArg (_ + ·) (show Int32.ofInt (1) = (1 : Int32) by decide)) rfl ?_
      refine e_goto (t := 4) (dAt D236 28 rfl) ⟨by decide, by decide⟩ ?_
      exact h
    · replace h := h.2 c
      refine e_aload_n (pc' := 17) (dAt D236 10 rfl) rfl rfl ?_
      refine e_getfield (pc' := 20) (dAt D236 11 rfl) rfl rfl hOx0 (hT.own hOx0 32 rfl) ?_
      refine e_bipush (pc' := 22) (v := 10) (dAt D236 12 rfl) rfl (by decide) ?_
      refine e_iload_n (pc' := 23) (dAt D236 13 rfl) rfl rfl ?_
      refine e_imul (pc' := 24) (dAt D236 14 rfl) rfl ?_
      refine e_iload_n (pc' := 25) (dAt D236 15 rfl) rfl rfl ?_
      refine e_iadd (pc' := 26) (dAt D236 16 rfl) rfl ?_
      obtain ⟨f1, h⟩ := h
      refine e_iaload (pc' := 27) (dAt D236 17 rfl) rfl (hT.arr hOx0 32 rfl (by decide)).1 (Or.inl (hT.arr hOx0 32 rfl (by decide)).2) f1 rfl ?_
      refine e_aload_n (pc' := 28) (dAt D236 18 rfl) rfl rfl ?_
      refine e_getfield (pc' := 31) (dAt D236 19 rfl) rfl rfl hOx0 (hT.own hOx0 3 rfl) ?_
      refine e_iload_n (pc' := 32) (dAt D236 20 rfl) rfl rfl ?_
      obtain ⟨f1, h⟩ := h
      refine e_iaload (pc' := 33) (dAt D236 21 rfl) rfl (hT.arr hOx0 3 rfl (by decide)).1 (Or.inl (hT.arr hOx0 3 rfl (by decide)).2) f1 rfl ?_
      refine e_icmp_ne (t := 40) (pc' := 36) (dAt D236 22 rfl) ⟨by decide, by decide⟩ rfl (fun c => ?_) (fun c => ?_)
      · replace h := h.1 c
        refine e_iconst (pc' := 41) (v := 0) (dAt D236 25 rfl) rfl (by decide) ?_
        refine e_istore_n (pc' := 42) (dAt D236 26 rfl) rfl (Nat.le_of_ble_eq_true rfl) rfl ?_
        replace h := h _ rfl
        refine e_iinc (pc' := 45) (dAt D236 27 rfl) rfl rfl (Nat.le_of_ble_eq_true rfl) (congrArg (_ + ·) (show Int32.ofInt (1) = (1 : Int32) by decide)) rfl ?_
        refine e_goto (t := 4) (dAt D236 28 rfl) ⟨by decide, by decide⟩ ?_
        exact h
      · replace h := h.2 c
        refine e_iconst (pc' := 37) (v := 1) (dAt D236 23 rfl) rfl (by decide) ?_
        refine e_goto (t := 41) (dAt D236 24 rfl) ⟨by decide, by decide⟩ ?_
        refine e_istore_n (pc' := 42) (dAt D236 26 rfl) rfl (Nat.le_of_ble_eq_true rfl) rfl ?_
        replace h := h _ rfl
        refine e_iinc (pc' := 45) (dAt D236 27 rfl) rfl rfl (Nat.le_of_ble_eq_true rfl) (congrArg (_ + ·) (show Int32.ofInt (1) = (1 : Int32) by decide)) rfl ?_
        refine e_goto (t := 4) (dAt D236 28 rfl) ⟨by decide, by decide⟩ ?_
        exact h
-- PlaceNetsModel.isCutOff.(I)Z, from 50
set_option maxRecDepth 20000 in
theorem bk236_50 {d b : Nat} {Q : Option Value → mMem → Prop} {m : mMem} {x0 : Nat} {x1 : Int32} {x2 : Int32} {x3 : Int32} {x4 : Option Value} (hT : mWT m) (hOx0 : m.1 x0 = some (.inr 8) ∧ x0 ≠ 0)
    (h : (((x1 ≤ x3) → ((x2 = 0 ∨ x2 = 1) ∧ (Q (some (.int x2)) m))) ∧ (¬ (x1 ≤ x3) → (((¬ x2 = 0) → ((x2 = 0 ∨ x2 = 1) ∧ (Q (some (.int x2)) m))) ∧ (¬ (¬ x2 = 0) → ((mIn x3 31 = true) ∧ (mEv d 171 [.int (m.2.2.1 (64 * x0 + 31) x3.toNatClampNeg)] m (fun r m' => mEs d 236 b g236 (68, [some (.ref x0), some (.int x1), some (.int x2), some (.int x3), x4], r.toList ++ [], m') Q)))))))) :
    mEs d 236 b g236 (50, [some (.ref x0), some (.int x1), some (.int x2), some (.int x3), x4], [], m) Q := by
  refine e_iload_n (pc' := 51) (dAt D236 31 rfl) rfl rfl ?_
  refine e_iload_n (pc' := 52) (dAt D236 32 rfl) rfl rfl ?_
  refine e_icmp_ge (t := 147) (pc' := 55) (dAt D236 33 rfl) ⟨by decide, by decide⟩ rfl (fun c => ?_) (fun c => ?_)
  · replace h := h.1 c
    refine e_iload_n (pc' := 148) (dAt D236 84 rfl) rfl rfl ?_
    obtain ⟨f1, h⟩ := h
    exact e_ireturn (dAt D236 85 rfl) rfl ⟨nb01 f1, fun e => by cases e⟩ h
  · replace h := h.2 c
    refine e_iload_n (pc' := 56) (dAt D236 34 rfl) rfl rfl ?_
    refine e_if_ne (t := 147) (pc' := 59) (dAt D236 35 rfl) ⟨by decide, by decide⟩ rfl (fun c => ?_) (fun c => ?_)
    · replace h := h.1 c
      refine e_iload_n (pc' := 148) (dAt D236 84 rfl) rfl rfl ?_
      obtain ⟨f1, h⟩ := h
      exact e_ireturn (dAt D236 85 rfl) rfl ⟨nb01 f1, fun e => by cases e⟩ h
    · replace h := h.2 c
      refine e_aload_n (pc' := 60) (dAt D236 36 rfl) rfl rfl ?_
      refine e_getfield (pc' := 63) (dAt D236 37 rfl) rfl rfl hOx0 (hT.own hOx0 30 rfl) ?_
      refine e_iload_n (pc' := 64) (dAt D236 38 rfl) rfl rfl ?_
      obtain ⟨f1, h⟩ := h
      refine e_iaload (pc' := 65) (dAt D236 39 rfl) rfl (hT.arr hOx0 30 rfl (by decide)).1 (Or.inl (hT.arr hOx0 30 rfl (by decide)).2) f1 rfl ?_
      exact e_call2 h (dAt D236 40 rfl) (hi2 rfl) rfl G171 (by decide) rfl (Nat.le_of_ble_eq_true rfl) rfl rfl rfl
-- PlaceNetsModel.isCutOff.(I)Z, from 68
set_option maxRecDepth 20000 in
theorem bk236_68 {d b : Nat} {Q : Option Value → mMem → Prop} {m : mMem} {x0 : Nat} {x1 : Int32} {x2 : Int32} {x3 : Int32} {x4 : Option Value} {y0 : Int32} (hT : mWT m) (hOx0 : m.1 x0 = some (.inr 8) ∧ x0 ≠ 0)
    (h : (mIn x1 31 = true) ∧ (mEv d 171 [.int (m.2.2.1 (64 * x0 + 31) x1.toNatClampNeg)] m (fun r m' => mEs d 236 b g236 (77, [some (.ref x0), some (.int x1), some (.int x2), some (.int x3), x4], r.toList ++ [.int y0], m') Q))) :
    mEs d 236 b g236 (68, [some (.ref x0), some (.int x1), some (.int x2), some (.int x3), x4], [.int y0], m) Q := by
  refine e_aload_n (pc' := 69) (dAt D236 41 rfl) rfl rfl ?_
  refine e_getfield (pc' := 72) (dAt D236 42 rfl) rfl rfl hOx0 (hT.own hOx0 30 rfl) ?_
  refine e_iload_n (pc' := 73) (dAt D236 43 rfl) rfl rfl ?_
  obtain ⟨f1, h⟩ := h
  refine e_iaload (pc' := 74) (dAt D236 44 rfl) rfl (hT.arr hOx0 30 rfl (by decide)).1 (Or.inl (hT.arr hOx0 30 rfl (by decide)).2) f1 rfl ?_
  exact e_call2 h (dAt D236 45 rfl) (hi2 rfl) rfl G171 (by decide) rfl (Nat.le_of_ble_eq_true rfl) rfl rfl rfl
-- PlaceNetsModel.isCutOff.(I)Z, from 77
set_option maxRecDepth 20000 in
theorem bk236_77 {d b : Nat} {Q : Option Value → mMem → Prop} {m : mMem} {x0 : Nat} {x1 : Int32} {x2 : Int32} {x3 : Int32} {x4 : Option Value} {y0 : Int32} {y1 : Int32} (hT : mWT m) (hOx0 : m.1 x0 = some (.inr 8) ∧ x0 ≠ 0)
    (h : (((y1 ≤ y0) → (mEs d 236 b g236 (89, [some (.ref x0), some (.int x1), some (.int 0), some (.int x3), some (.int 0)], [], m) Q)) ∧ (¬ (y1 ≤ y0) → (mEs d 236 b g236 (89, [some (.ref x0), some (.int x1), some (.int 1), some (.int x3), some (.int 0)], [], m) Q)))) :
    mEs d 236 b g236 (77, [some (.ref x0), some (.int x1), some (.int x2), some (.int x3), x4], [.int y1, .int y0], m) Q := by
  refine e_icmp_ge (t := 84) (pc' := 80) (dAt D236 46 rfl) ⟨by decide, by decide⟩ rfl (fun c => ?_) (fun c => ?_)
  · replace h := h.1 c
    refine e_iconst (pc' := 85) (v := 0) (dAt D236 49 rfl) rfl (by decide) ?_
    refine e_istore_n (pc' := 86) (dAt D236 50 rfl) rfl (Nat.le_of_ble_eq_true rfl) rfl ?_
    refine e_iconst (pc' := 87) (v := 0) (dAt D236 51 rfl) rfl (by decide) ?_
    refine e_istore (pc' := 89) (dAt D236 52 rfl) rfl (Nat.le_of_ble_eq_true rfl) rfl ?_
    exact h
  · replace h := h.2 c
    refine e_iconst (pc' := 81) (v := 1) (dAt D236 47 rfl) rfl (by decide) ?_
    refine e_goto (t := 85) (dAt D236 48 rfl) ⟨by decide, by decide⟩ ?_
    refine e_istore_n (pc' := 86) (dAt D236 50 rfl) rfl (Nat.le_of_ble_eq_true rfl) rfl ?_
    refine e_iconst (pc' := 87) (v := 0) (dAt D236 51 rfl) rfl (by decide) ?_
    refine e_istore (pc' := 89) (dAt D236 52 rfl) rfl (Nat.le_of_ble_eq_true rfl) rfl ?_
    exact h
-- PlaceNetsModel.isCutOff.(I)Z, from 89
set_option maxRecDepth 20000 in
theorem bk236_89 {d b : Nat} {Q : Option Value → mMem → Prop} {m : mMem} {x0 : Nat} {x1 : Int32} {x2 : Int32} {x3 : Int32} {x4 : Int32} (hT : mWT m) (hOx0 : m.1 x0 = some (.inr 8) ∧ x0 ≠ 0)
    (h : ((((iF m x0 6) ≤ x4) → (∀ (v_1 : Int32), v_1 = (x3 + 1) → mEs d 236 b g236 (50, [some (.ref x0), some (.int x1), some (.int x2), some (.int v_1), some (.int x4)], [], m) Q)) ∧ (¬ ((iF m x0 6) ≤ x4) → (((x2 = 0) → (∀ (v_2 : Int32), v_2 = (x4 + 1) → mEs d 236 b g236 (89, [some (.ref x0), some (.int x1), some (.int 0), some (.int x3), some (.int v_2)], [], m) Q)) ∧ (¬ (x2 = 0) → ((mIn ((10 * x3) + x4) 310 = true) ∧ ((mIn ((10 * x1) + x4) 310 = true) ∧ (((¬ (m.2.2.1 (64 * x0 + 33) ((10 * x3) + x4).toNatClampNeg) = (m.2.2.1 (64 * x0 + 33) ((10 * x1) + x4).toNatClampNeg)) → (∀ (v_3 : Int32), v_3 = (x4 + 1) → mEs d 236 b g236 (89, [some (.ref x0), some (.int x1), some (.int 0), some (.int x3), some (.int v_3)], [], m) Q)) ∧ (¬ (¬ (m.2.2.1 (64 * x0 + 33) ((10 * x3) + x4).toNatClampNeg) = (m.2.2.1 (64 * x0 + 33) ((10 * x1) + x4).toNatClampNeg)) → (∀ (v_4 : Int32), v_4 = (x4 + 1) → mEs d 236 b g236 (89, [some (.ref x0), some (.int x1), some (.int 1), some (.int x3), some (.int v_4)], [], m) Q)))))))))) :
    mEs d 236 b g236 (89, [some (.ref x0), some (.int x1), some (.int x2), some (.int x3), some (.int x4)], [], m) Q := by
  refine e_iload (pc' := 91) (dAt D236 53 rfl) rfl rfl ?_
  refine e_aload_n (pc' := 92) (dAt D236 54 rfl) rfl rfl ?_
  refine e_getfield (pc' := 95) (dAt D236 55 rfl) rfl rfl hOx0 (hT.int hOx0 6 (by decide)) ?_
  refine e_icmp_ge (t := 141) (pc' := 98) (dAt D236 56 rfl) ⟨by decide, by decide⟩ rfl (fun c => ?_) (fun c => ?_)
  · replace h := h.1 c
    replace h := h _ rfl
    refine e_iinc (pc' := 144) (dAt D236 82 rfl) rfl rfl (Nat.le_of_ble_eq_true rfl) (congrArg (_ + ·) (show Int32.ofInt (1) = (1 : Int32) by decide)) rfl ?_
    refine e_goto (t := 50) (dAt D236 83 rfl) ⟨by decide, by decide⟩ ?_
    exact h
  · replace h := h.2 c
    refine e_iload_n (pc' := 99) (dAt D236 57 rfl) rfl rfl ?_
    refine e_if_eq (t := 133) (pc' := 102) (dAt D236 58 rfl) ⟨by decide, by decide⟩ rfl (fun c => ?_) (fun c => ?_)
    · replace h := h.1 c
      refine e_iconst (pc' := 134) (v := 0) (dAt D236 78 rfl) rfl (by decide) ?_
      refine e_istore_n (pc' := 135) (dAt D236 79 rfl) rfl (Nat.le_of_ble_eq_true rfl) rfl ?_
      replace h := h _ rfl
      refine e_iinc (pc' := 138) (dAt D236 80 rfl) rfl rfl (Nat.le_of_ble_eq_true rfl) (congrArg (_ + ·) (show Int32.ofInt (1) = (1 : Int32) by decide)) rfl ?_
      refine e_goto (t := 89) (dAt D236 81 rfl) ⟨by decide, by decide⟩ ?_
      exact h
    · replace h := h.2 c
      refine e_aload_n (pc' := 103) (dAt D236 59 rfl) rfl rfl ?_
      refine e_getfield (pc' := 106) (dAt D236 60 rfl) rfl rfl hOx0 (hT.own hOx0 32 rfl) ?_
      refine e_bipush (pc' := 108) (v := 10) (dAt D236 61 rfl) rfl (by decide) ?_
      refine e_iload_n (pc' := 109) (dAt D236 62 rfl) rfl rfl ?_
      refine e_imul (pc' := 110) (dAt D236 63 rfl) rfl ?_
      refine e_iload (pc' := 112) (dAt D236 64 rfl) rfl rfl ?_
      refine e_iadd (pc' := 113) (dAt D236 65 rfl) rfl ?_
      obtain ⟨f1, h⟩ := h
      refine e_iaload (pc' := 114) (dAt D236 66 rfl) rfl (hT.arr hOx0 32 rfl (by decide)).1 (Or.inl (hT.arr hOx0 32 rfl (by decide)).2) f1 rfl ?_
      refine e_aload_n (pc' := 115) (dAt D236 67 rfl) rfl rfl ?_
      refine e_getfield (pc' := 118) (dAt D236 68 rfl) rfl rfl hOx0 (hT.own hOx0 32 rfl) ?_
      refine e_bipush (pc' := 120) (v := 10) (dAt D236 69 rfl) rfl (by decide) ?_
      refine e_iload_n (pc' := 121) (dAt D236 70 rfl) rfl rfl ?_
      refine e_imul (pc' := 122) (dAt D236 71 rfl) rfl ?_
      refine e_iload (pc' := 124) (dAt D236 72 rfl) rfl rfl ?_
      refine e_iadd (pc' := 125) (dAt D236 73 rfl) rfl ?_
      obtain ⟨f1, h⟩ := h
      refine e_iaload (pc' := 126) (dAt D236 74 rfl) rfl (hT.arr hOx0 32 rfl (by decide)).1 (Or.inl (hT.arr hOx0 32 rfl (by decide)).2) f1 rfl ?_
      refine e_icmp_ne (t := 133) (pc' := 129) (dAt D236 75 rfl) ⟨by decide, by decide⟩ rfl (fun c => ?_) (fun c => ?_)
      · replace h := h.1 c
        refine e_iconst (pc' := 134) (v := 0) (dAt D236 78 rfl) rfl (by decide) ?_
        refine e_istore_n (pc' := 135) (dAt D236 79 rfl) rfl (Nat.le_of_ble_eq_true rfl) rfl ?_
        replace h := h _ rfl
        refine e_iinc (pc' := 138) (dAt D236 80 rfl) rfl rfl (Nat.le_of_ble_eq_true rfl) (congrArg (_ + ·) (show Int32.ofInt (1) = (1 : Int32) by decide)) rfl ?_
        refine e_goto (t := 89) (dAt D236 81 rfl) ⟨by decide, by decide⟩ ?_
        exact h
      · replace h := h.2 c
        refine e_iconst (pc' := 130) (v := 1) (dAt D236 76 rfl) rfl (by decide) ?_
        refine e_goto (t := 134) (dAt D236 77 rfl) ⟨by decide, by decide⟩ ?_
        refine e_istore_n (pc' := 135) (dAt D236 79 rfl) rfl (Nat.le_of_ble_eq_true rfl) rfl ?_
        replace h := h _ rfl
        refine e_iinc (pc' := 138) (dAt D236 80 rfl) rfl rfl (Nat.le_of_ble_eq_true rfl) (congrArg (_ + ·) (show Int32.ofInt (1) = (1 : Int32) by decide)) rfl ?_
        refine e_goto (t := 89) (dAt D236 81 rfl) ⟨by decide, by decide⟩ ?_
        exact h
-- PlaceNetsModel.condition.(II)I, from 0
set_option maxRecDepth 20000 in
theorem bk237_0 {d b : Nat} {Q : Option Value → mMem → Prop} {m : mMem} {x0 : Nat} {x1 : Int32} {x2 : Int32} (hT : mWT m) (hOx0 : m.1 x0 = some (.inr 8) ∧ x0 ≠ 0)
    (h : ∀ (m_1 : mMem), m_1 = (mSetF m x0 0 (.int 0)) → ((((iF m_1 x0 18) = 0) → (Q (some (.int ((-1)))) m_1)) ∧ (¬ ((iF m_1 x0 18) = 0) → (((x1 < ((-1))) → (Q (some (.int ((-1)))) m_1)) ∧ (¬ (x1 < ((-1))) → (((¬ x1 = ((-1))) → (mEv d 151 [.long x2.toInt64, .long 0, .long 1] m_1 (fun r m' => mEs d 237 b g237 (33, [some (.ref x0), some (.int x1), some (.int x2)], r.toList ++ [], m') Q))) ∧ (¬ (¬ x1 = ((-1))) → (mEv d 151 [.long x2.toInt64, .long 0, .long 0] m_1 (fun r m' => mEs d 237 b g237 (33, [some (.ref x0), some (.int x1), some (.int x2)], r.toList ++ [], m') Q))))))))) :
    mEs d 237 b g237 (0, [some (.ref x0), some (.int x1), some (.int x2)], [], m) Q := by
  refine e_aload_n (pc' := 1) (dAt D237 0 rfl) rfl rfl ?_
  refine e_iconst (pc' := 2) (v := 0) (dAt D237 1 rfl) rfl (by decide) ?_
  replace h := h _ rfl
  refine e_putfield (pc' := 5) (dAt D237 2 rfl) rfl rfl hOx0 rfl rfl (fun e => by cases e) ?_
  refine wtF hT hOx0 (by decide) (fun hT_2 => ?_)
  refine e_aload_n (pc' := 6) (dAt D237 3 rfl) rfl rfl ?_
  refine e_getfield (pc' := 9) (dAt D237 4 rfl) rfl rfl hOx0 (hT_2.int hOx0 18 (by decide)) ?_
  refine e_if_eq (t := 36) (pc' := 12) (dAt D237 5 rfl) ⟨by decide, by decide⟩ rfl (fun c => ?_) (fun c => ?_)
  · replace h := h.1 c
    refine e_iconst (pc' := 37) (v := (-1)) (dAt D237 20 rfl) rfl (by decide) ?_
    exact e_ireturn (dAt D237 21 rfl) rfl ⟨rfl, fun e => by cases e⟩ h
  · replace h := h.2 c
    refine e_iload_n (pc' := 13) (dAt D237 6 rfl) rfl rfl ?_
    refine e_iconst (pc' := 14) (v := (-1)) (dAt D237 7 rfl) rfl (by decide) ?_
    refine e_icmp_lt (t := 36) (pc' := 17) (dAt D237 8 rfl) ⟨by decide, by decide⟩ rfl (fun c => ?_) (fun c => ?_)
    · replace h := h.1 c
      refine e_iconst (pc' := 37) (v := (-1)) (dAt D237 20 rfl) rfl (by decide) ?_
      exact e_ireturn (dAt D237 21 rfl) rfl ⟨rfl, fun e => by cases e⟩ h
    · replace h := h.2 c
      refine e_iload_n (pc' := 18) (dAt D237 9 rfl) rfl rfl ?_
      refine e_i2l (pc' := 19) (dAt D237 10 rfl) rfl ?_
      refine e_lconst (pc' := 20) (v := 0) (dAt D237 11 rfl) rfl (by decide) ?_
      refine e_iload_n (pc' := 21) (dAt D237 12 rfl) rfl rfl ?_
      refine e_iconst (pc' := 22) (v := (-1)) (dAt D237 13 rfl) rfl (by decide) ?_
      refine e_icmp_ne (t := 29) (pc' := 25) (dAt D237 14 rfl) ⟨by decide, by decide⟩ rfl (fun c => ?_) (fun c => ?_)
      · replace h := h.1 c
        refine e_lconst (pc' := 30) (v := 1) (dAt D237 17 rfl) rfl (by decide) ?_
        exact e_call2 h (dAt D237 18 rfl) (hi2 rfl) rfl G151 (by decide) rfl (Nat.le_of_ble_eq_true rfl) rfl rfl rfl
      · replace h := h.2 c
        refine e_lconst (pc' := 26) (v := 0) (dAt D237 15 rfl) rfl (by decide) ?_
        refine e_goto (t := 30) (dAt D237 16 rfl) ⟨by decide, by decide⟩ ?_
        exact e_call2 h (dAt D237 18 rfl) (hi2 rfl) rfl G151 (by decide) rfl (Nat.le_of_ble_eq_true rfl) rfl rfl rfl
-- PlaceNetsModel.condition.(II)I, from 33
set_option maxRecDepth 20000 in
theorem bk237_33 {d b : Nat} {Q : Option Value → mMem → Prop} {m : mMem} {x0 : Nat} {x1 : Int32} {x2 : Int32} {y0 : Int32} (hT : mWT m) (hOx0 : m.1 x0 = some (.inr 8) ∧ x0 ≠ 0)
    (h : (((¬ y0 = 0) → (mEv d 224 [.ref x0] m (fun r m' => mEs d 237 b g237 (42, [some (.ref x0), some (.int x1), some (.int x2)], r.toList ++ [], m') Q))) ∧ (¬ (¬ y0 = 0) → (Q (some (.int ((-1)))) m)))) :
    mEs d 237 b g237 (33, [some (.ref x0), some (.int x1), some (.int x2)], [.int y0], m) Q := by
  refine e_if_ne (t := 38) (pc' := 36) (dAt D237 19 rfl) ⟨by decide, by decide⟩ rfl (fun c => ?_) (fun c => ?_)
  · replace h := h.1 c
    refine e_aload_n (pc' := 39) (dAt D237 22 rfl) rfl rfl ?_
    exact e_call2 h (dAt D237 23 rfl) (hi0 rfl) rfl G224 (by decide) rfl (Nat.le_of_ble_eq_true rfl) (kV hOx0 rfl rfl) rfl rfl
  · replace h := h.2 c
    refine e_iconst (pc' := 37) (v := (-1)) (dAt D237 20 rfl) rfl (by decide) ?_
    exact e_ireturn (dAt D237 21 rfl) rfl ⟨rfl, fun e => by cases e⟩ h
-- PlaceNetsModel.condition.(II)I, from 42
set_option maxRecDepth 20000 in
theorem bk237_42 {d b : Nat} {Q : Option Value → mMem → Prop} {m : mMem} {x0 : Nat} {x1 : Int32} {x2 : Int32} (hT : mWT m) (hOx0 : m.1 x0 = some (.inr 8) ∧ x0 ≠ 0)
    (h : ((((iF m x0 46) = 0) → (((x1 = ((-1))) → (((¬ x1 = ((-1))) → (Q (some (.int ((-1)))) m)) ∧ (¬ (¬ x1 = ((-1))) → (Q (some (.int (iF m x0 55))) m)))) ∧ (¬ (x1 = ((-1))) → (((x1 < (iF m x0 55)) → (((¬ x2 = 0) → ((mIn x1 81 = true) ∧ (((¬ (m.2.2.1 (64 * x0 + 36) x1.toNatClampNeg) = ((-1))) → ((mIn x1 81 = true) ∧ (Q (some (.int (m.2.2.1 (64 * x0 + 36) x1.toNatClampNeg))) m))) ∧ (¬ (¬ (m.2.2.1 (64 * x0 + 36) x1.toNatClampNeg) = ((-1))) → (Q (some (.int ((-3)))) m))))) ∧ (¬ (¬ x2 = 0) → ((mIn x1 81 = true) ∧ (Q (some (.int (m.2.2.1 (64 * x0 + 35) x1.toNatClampNeg))) m))))) ∧ (¬ (x1 < (iF m x0 55)) → (((¬ x1 = ((-1))) → (Q (some (.int ((-1)))) m)) ∧ (¬ (¬ x1 = ((-1))) → (Q (some (.int (iF m x0 55))) m)))))))) ∧ (¬ ((iF m x0 46) = 0) → (Q (some (.int ((-2)))) m)))) :
    mEs d 237 b g237 (42, [some (.ref x0), some (.int x1), some (.int x2)], [], m) Q := by
  refine e_aload_n (pc' := 43) (dAt D237 24 rfl) rfl rfl ?_
  refine e_getfield (pc' := 46) (dAt D237 25 rfl) rfl rfl hOx0 (hT.int hOx0 46 (by decide)) ?_
  refine e_if_eq (t := 52) (pc' := 49) (dAt D237 26 rfl) ⟨by decide, by decide⟩ rfl (fun c => ?_) (fun c => ?_)
  · replace h := h.1 c
    refine e_iload_n (pc' := 53) (dAt D237 29 rfl) rfl rfl ?_
    refine e_iconst (pc' := 54) (v := (-1)) (dAt D237 30 rfl) rfl (by decide) ?_
    refine e_icmp_eq (t := 65) (pc' := 57) (dAt D237 31 rfl) ⟨by decide, by decide⟩ rfl (fun c => ?_) (fun c => ?_)
    · replace h := h.1 c
      refine e_iload_n (pc' := 66) (dAt D237 36 rfl) rfl rfl ?_
      refine e_iconst (pc' := 67) (v := (-1)) (dAt D237 37 rfl) rfl (by decide) ?_
      refine e_icmp_ne (t := 77) (pc' := 70) (dAt D237 38 rfl) ⟨by decide, by decide⟩ rfl (fun c => ?_) (fun c => ?_)
      · replace h := h.1 c
        refine e_iconst (pc' := 78) (v := (-1)) (dAt D237 42 rfl) rfl (by decide) ?_
        exact e_ireturn (dAt D237 43 rfl) rfl ⟨rfl, fun e => by cases e⟩ h
      · replace h := h.2 c
        refine e_aload_n (pc' := 71) (dAt D237 39 rfl) rfl rfl ?_
        refine e_getfield (pc' := 74) (dAt D237 40 rfl) rfl rfl hOx0 (hT.int hOx0 55 (by decide)) ?_
        refine e_goto (t := 78) (dAt D237 41 rfl) ⟨by decide, by decide⟩ ?_
        exact e_ireturn (dAt D237 43 rfl) rfl ⟨rfl, fun e => by cases e⟩ h
    · replace h := h.2 c
      refine e_iload_n (pc' := 58) (dAt D237 32 rfl) rfl rfl ?_
      refine e_aload_n (pc' := 59) (dAt D237 33 rfl) rfl rfl ?_
      refine e_getfield (pc' := 62) (dAt D237 34 rfl) rfl rfl hOx0 (hT.int hOx0 55 (by decide)) ?_
      refine e_icmp_lt (t := 79) (pc' := 65) (dAt D237 35 rfl) ⟨by decide, by decide⟩ rfl (fun c => ?_) (fun c => ?_)
      · replace h := h.1 c
        refine e_iload_n (pc' := 80) (dAt D237 44 rfl) rfl rfl ?_
        refine e_if_ne (t := 92) (pc' := 83) (dAt D237 45 rfl) ⟨by decide, by decide⟩ rfl (fun c => ?_) (fun c => ?_)
        · replace h := h.1 c
          refine e_aload_n (pc' := 93) (dAt D237 51 rfl) rfl rfl ?_
          refine e_getfield (pc' := 96) (dAt D237 52 rfl) rfl rfl hOx0 (hT.own hOx0 35 rfl) ?_
          refine e_iload_n (pc' := 97) (dAt D237 53 rfl) rfl rfl ?_
          obtain ⟨f1, h⟩ := h
          refine e_iaload (pc' := 98) (dAt D237 54 rfl) rfl (hT.arr hOx0 35 rfl (by decide)).1 (Or.inl (hT.arr hOx0 35 rfl (by decide)).2) f1 rfl ?_
          refine e_iconst (pc' := 99) (v := (-1)) (dAt D237 55 rfl) rfl (by decide) ?_
          refine e_icmp_ne (t := 107) (pc' := 102) (dAt D237 56 rfl) ⟨by decide, by decide⟩ rfl (fun c => ?_) (fun c => ?_)
          · replace h := h.1 c
            refine e_aload_n (pc' := 108) (dAt D237 59 rfl) rfl rfl ?_
            refine e_getfield (pc' := 111) (dAt D237 60 rfl) rfl rfl hOx0 (hT.own hOx0 35 rfl) ?_
            refine e_iload_n (pc' := 112) (dAt D237 61 rfl) rfl rfl ?_
            obtain ⟨f1, h⟩ := h
            refine e_iaload (pc' := 113) (dAt D237 62 rfl) rfl (hT.arr hOx0 35 rfl (by decide)).1 (Or.inl (hT.arr hOx0 35 rfl (by decide)).2) f1 rfl ?_
            exact e_ireturn (dAt D237 63 rfl) rfl ⟨rfl, fun e => by cases e⟩ h
          · replace h := h.2 c
            refine e_bipush (pc' := 104) (v := (-3)) (dAt D237 57 rfl) rfl (by decide) ?_
            refine e_goto (t := 113) (dAt D237 58 rfl) ⟨by decide, by decide⟩ ?_
            exact e_ireturn (dAt D237 63 rfl) rfl ⟨rfl, fun e => by cases e⟩ h
        · replace h := h.2 c
          refine e_aload_n (pc' := 84) (dAt D237 46 rfl) rfl rfl ?_
          refine e_getfield (pc' := 87) (dAt D237 47 rfl) rfl rfl hOx0 (hT.own hOx0 34 rfl) ?_
          refine e_iload_n (pc' := 88) (dAt D237 48 rfl) rfl rfl ?_
          obtain ⟨f1, h⟩ := h
          refine e_iaload (pc' := 89) (dAt D237 49 rfl) rfl (hT.arr hOx0 34 rfl (by decide)).1 (Or.inl (hT.arr hOx0 34 rfl (by decide)).2) f1 rfl ?_
          refine e_goto (t := 113) (dAt D237 50 rfl) ⟨by decide, by decide⟩ ?_
          exact e_ireturn (dAt D237 63 rfl) rfl ⟨rfl, fun e => by cases e⟩ h
      · replace h := h.2 c
        refine e_iload_n (pc' := 66) (dAt D237 36 rfl) rfl rfl ?_
        refine e_iconst (pc' := 67) (v := (-1)) (dAt D237 37 rfl) rfl (by decide) ?_
        refine e_icmp_ne (t := 77) (pc' := 70) (dAt D237 38 rfl) ⟨by decide, by decide⟩ rfl (fun c => ?_) (fun c => ?_)
        · replace h := h.1 c
          refine e_iconst (pc' := 78) (v := (-1)) (dAt D237 42 rfl) rfl (by decide) ?_
          exact e_ireturn (dAt D237 43 rfl) rfl ⟨rfl, fun e => by cases e⟩ h
        · replace h := h.2 c
          refine e_aload_n (pc' := 71) (dAt D237 39 rfl) rfl rfl ?_
          refine e_getfield (pc' := 74) (dAt D237 40 rfl) rfl rfl hOx0 (hT.int hOx0 55 (by decide)) ?_
          refine e_goto (t := 78) (dAt D237 41 rfl) ⟨by decide, by decide⟩ ?_
          exact e_ireturn (dAt D237 43 rfl) rfl ⟨rfl, fun e => by cases e⟩ h
  · replace h := h.2 c
    refine e_bipush (pc' := 51) (v := (-2)) (dAt D237 27 rfl) rfl (by decide) ?_
    exact e_ireturn (dAt D237 28 rfl) rfl ⟨rfl, fun e => by cases e⟩ h
-- PlaceNetsModel.atOnce.(II)I, from 0
set_option maxRecDepth 20000 in
theorem bk238_0 {d b : Nat} {Q : Option Value → mMem → Prop} {m : mMem} {x0 : Nat} {x1 : Int32} {x2 : Int32} (hT : mWT m) (hOx0 : m.1 x0 = some (.inr 8) ∧ x0 ≠ 0)
    (h : ∀ (m_1 : mMem), m_1 = (mSetF m x0 0 (.int 0)) → ((((iF m_1 x0 18) = 0) → (Q (some (.int ((-1)))) m_1)) ∧ (¬ ((iF m_1 x0 18) = 0) → (((x1 < 0) → (Q (some (.int ((-1)))) m_1)) ∧ (¬ (x1 < 0) → (((0 ≤ x2) → (mEv d 224 [.ref x0] m_1 (fun r m' => mEs d 238 b g238 (26, [some (.ref x0), some (.int x1), some (.int x2)], r.toList ++ [], m') Q))) ∧ (¬ (0 ≤ x2) → (Q (some (.int ((-1)))) m_1)))))))) :
    mEs d 238 b g238 (0, [some (.ref x0), some (.int x1), some (.int x2)], [], m) Q := by
  refine e_aload_n (pc' := 1) (dAt D238 0 rfl) rfl rfl ?_
  refine e_iconst (pc' := 2) (v := 0) (dAt D238 1 rfl) rfl (by decide) ?_
  replace h := h _ rfl
  refine e_putfield (pc' := 5) (dAt D238 2 rfl) rfl rfl hOx0 rfl rfl (fun e => by cases e) ?_
  refine wtF hT hOx0 (by decide) (fun hT_2 => ?_)
  refine e_aload_n (pc' := 6) (dAt D238 3 rfl) rfl rfl ?_
  refine e_getfield (pc' := 9) (dAt D238 4 rfl) rfl rfl hOx0 (hT_2.int hOx0 18 (by decide)) ?_
  refine e_if_eq (t := 20) (pc' := 12) (dAt D238 5 rfl) ⟨by decide, by decide⟩ rfl (fun c => ?_) (fun c => ?_)
  · replace h := h.1 c
    refine e_iconst (pc' := 21) (v := (-1)) (dAt D238 10 rfl) rfl (by decide) ?_
    exact e_ireturn (dAt D238 11 rfl) rfl ⟨rfl, fun e => by cases e⟩ h
  · replace h := h.2 c
    refine e_iload_n (pc' := 13) (dAt D238 6 rfl) rfl rfl ?_
    refine e_if_lt (t := 20) (pc' := 16) (dAt D238 7 rfl) ⟨by decide, by decide⟩ rfl (fun c => ?_) (fun c => ?_)
    · replace h := h.1 c
      refine e_iconst (pc' := 21) (v := (-1)) (dAt D238 10 rfl) rfl (by decide) ?_
      exact e_ireturn (dAt D238 11 rfl) rfl ⟨rfl, fun e => by cases e⟩ h
    · replace h := h.2 c
      refine e_iload_n (pc' := 17) (dAt D238 8 rfl) rfl rfl ?_
      refine e_if_ge (t := 22) (pc' := 20) (dAt D238 9 rfl) ⟨by decide, by decide⟩ rfl (fun c => ?_) (fun c => ?_)
      · replace h := h.1 c
        refine e_aload_n (pc' := 23) (dAt D238 12 rfl) rfl rfl ?_
        exact e_call2 h (dAt D238 13 rfl) (hi0 rfl) rfl G224 (by decide) rfl (Nat.le_of_ble_eq_true rfl) (kV hOx0 rfl rfl) rfl rfl
      · replace h := h.2 c
        refine e_iconst (pc' := 21) (v := (-1)) (dAt D238 10 rfl) rfl (by decide) ?_
        exact e_ireturn (dAt D238 11 rfl) rfl ⟨rfl, fun e => by cases e⟩ h
-- PlaceNetsModel.atOnce.(II)I, from 26
set_option maxRecDepth 20000 in
theorem bk238_26 {d b : Nat} {Q : Option Value → mMem → Prop} {m : mMem} {x0 : Nat} {x1 : Int32} {x2 : Int32} (hT : mWT m) (hOx0 : m.1 x0 = some (.inr 8) ∧ x0 ≠ 0)
    (h : ((((iF m x0 46) = 0) → ((((iF m x0 55) ≤ x1) → (Q (some (.int ((-1)))) m)) ∧ (¬ ((iF m x0 55) ≤ x1) → ((((iF m x0 55) ≤ x2) → (Q (some (.int ((-1)))) m)) ∧ (¬ ((iF m x0 55) ≤ x2) → (mEv d 229 [.ref x0, .int x1, .int x2] m (fun r m' => mEs d 238 b g238 (58, [some (.ref x0), some (.int x1), some (.int x2)], r.toList ++ [], m') Q))))))) ∧ (¬ ((iF m x0 46) = 0) → (Q (some (.int ((-2)))) m)))) :
    mEs d 238 b g238 (26, [some (.ref x0), some (.int x1), some (.int x2)], [], m) Q := by
  refine e_aload_n (pc' := 27) (dAt D238 14 rfl) rfl rfl ?_
  refine e_getfield (pc' := 30) (dAt D238 15 rfl) rfl rfl hOx0 (hT.int hOx0 46 (by decide)) ?_
  refine e_if_eq (t := 36) (pc' := 33) (dAt D238 16 rfl) ⟨by decide, by decide⟩ rfl (fun c => ?_) (fun c => ?_)
  · replace h := h.1 c
    refine e_iload_n (pc' := 37) (dAt D238 19 rfl) rfl rfl ?_
    refine e_aload_n (pc' := 38) (dAt D238 20 rfl) rfl rfl ?_
    refine e_getfield (pc' := 41) (dAt D238 21 rfl) rfl rfl hOx0 (hT.int hOx0 55 (by decide)) ?_
    refine e_icmp_ge (t := 69) (pc' := 44) (dAt D238 22 rfl) ⟨by decide, by decide⟩ rfl (fun c => ?_) (fun c => ?_)
    · replace h := h.1 c
      refine e_iconst (pc' := 70) (v := (-1)) (dAt D238 36 rfl) rfl (by decide) ?_
      exact e_ireturn (dAt D238 37 rfl) rfl ⟨rfl, fun e => by cases e⟩ h
    · replace h := h.2 c
      refine e_iload_n (pc' := 45) (dAt D238 23 rfl) rfl rfl ?_
      refine e_aload_n (pc' := 46) (dAt D238 24 rfl) rfl rfl ?_
      refine e_getfield (pc' := 49) (dAt D238 25 rfl) rfl rfl hOx0 (hT.int hOx0 55 (by decide)) ?_
      refine e_icmp_ge (t := 69) (pc' := 52) (dAt D238 26 rfl) ⟨by decide, by decide⟩ rfl (fun c => ?_) (fun c => ?_)
      · replace h := h.1 c
        refine e_iconst (pc' := 70) (v := (-1)) (dAt D238 36 rfl) rfl (by decide) ?_
        exact e_ireturn (dAt D238 37 rfl) rfl ⟨rfl, fun e => by cases e⟩ h
      · replace h := h.2 c
        refine e_aload_n (pc' := 53) (dAt D238 27 rfl) rfl rfl ?_
        refine e_iload_n (pc' := 54) (dAt D238 28 rfl) rfl rfl ?_
        refine e_iload_n (pc' := 55) (dAt D238 29 rfl) rfl rfl ?_
        exact e_call2 h (dAt D238 30 rfl) (hi0 rfl) rfl G229 (by decide) rfl (Nat.le_of_ble_eq_true rfl) (kV hOx0 rfl rfl) rfl rfl
  · replace h := h.2 c
    refine e_bipush (pc' := 35) (v := (-2)) (dAt D238 17 rfl) rfl (by decide) ?_
    exact e_ireturn (dAt D238 18 rfl) rfl ⟨rfl, fun e => by cases e⟩ h
-- PlaceNetsModel.atOnce.(II)I, from 58
set_option maxRecDepth 20000 in
theorem bk238_58 {d b : Nat} {Q : Option Value → mMem → Prop} {m : mMem} {x0 : Nat} {x1 : Int32} {x2 : Int32} {y0 : Int32} (hT : mWT m) (hOx0 : m.1 x0 = some (.inr 8) ∧ x0 ≠ 0)
    (h : (((y0 = 0) → (Q (some (.int 0)) m)) ∧ (¬ (y0 = 0) → (Q (some (.int 1)) m)))) :
    mEs d 238 b g238 (58, [some (.ref x0), some (.int x1), some (.int x2)], [.int y0], m) Q := by
  refine e_if_eq (t := 65) (pc' := 61) (dAt D238 31 rfl) ⟨by decide, by decide⟩ rfl (fun c => ?_) (fun c => ?_)
  · replace h := h.1 c
    refine e_iconst (pc' := 66) (v := 0) (dAt D238 34 rfl) rfl (by decide) ?_
    refine e_goto (t := 70) (dAt D238 35 rfl) ⟨by decide, by decide⟩ ?_
    exact e_ireturn (dAt D238 37 rfl) rfl ⟨rfl, fun e => by cases e⟩ h
  · replace h := h.2 c
    refine e_iconst (pc' := 62) (v := 1) (dAt D238 32 rfl) rfl (by decide) ?_
    refine e_goto (t := 70) (dAt D238 33 rfl) ⟨by decide, by decide⟩ ?_
    exact e_ireturn (dAt D238 37 rfl) rfl ⟨rfl, fun e => by cases e⟩ h
-- PlaceNetsModel.leaves.(II)I, from 0
set_option maxRecDepth 20000 in
theorem bk239_0 {d b : Nat} {Q : Option Value → mMem → Prop} {m : mMem} {x0 : Nat} {x1 : Int32} {x2 : Int32} (hT : mWT m) (hOx0 : m.1 x0 = some (.inr 8) ∧ x0 ≠ 0)
    (h : ∀ (m_1 : mMem), m_1 = (mSetF m x0 0 (.int 0)) → mEv d 161 [.ref x0, .int x2] m_1 (fun r m' => mEs d 239 b g239 (10, [some (.ref x0), some (.int x1), some (.int x2)], r.toList ++ [], m') Q)) :
    mEs d 239 b g239 (0, [some (.ref x0), some (.int x1), some (.int x2)], [], m) Q := by
  refine e_aload_n (pc' := 1) (dAt D239 0 rfl) rfl rfl ?_
  refine e_iconst (pc' := 2) (v := 0) (dAt D239 1 rfl) rfl (by decide) ?_
  replace h := h _ rfl
  refine e_putfield (pc' := 5) (dAt D239 2 rfl) rfl rfl hOx0 rfl rfl (fun e => by cases e) ?_
  refine wtF hT hOx0 (by decide) (fun hT_2 => ?_)
  refine e_aload_n (pc' := 6) (dAt D239 3 rfl) rfl rfl ?_
  refine e_iload_n (pc' := 7) (dAt D239 4 rfl) rfl rfl ?_
  exact e_call2 h (dAt D239 5 rfl) (hi0 rfl) rfl G161 (by decide) rfl (Nat.le_of_ble_eq_true rfl) (kV hOx0 rfl rfl) rfl rfl
-- PlaceNetsModel.leaves.(II)I, from 10
set_option maxRecDepth 20000 in
theorem bk239_10 {d b : Nat} {Q : Option Value → mMem → Prop} {m : mMem} {x0 : Nat} {x1 : Int32} {x2 : Int32} {y0 : Int32} (hT : mWT m) (hOx0 : m.1 x0 = some (.inr 8) ∧ x0 ≠ 0)
    (h : (((y0 = 0) → (Q (some (.int ((-1)))) m)) ∧ (¬ (y0 = 0) → (((0 ≤ x1) → (mEv d 224 [.ref x0] m (fun r m' => mEs d 239 b g239 (23, [some (.ref x0), some (.int x1), some (.int x2)], r.toList ++ [], m') Q))) ∧ (¬ (0 ≤ x1) → (Q (some (.int ((-1)))) m)))))) :
    mEs d 239 b g239 (10, [some (.ref x0), some (.int x1), some (.int x2)], [.int y0], m) Q := by
  refine e_if_eq (t := 17) (pc' := 13) (dAt D239 6 rfl) ⟨by decide, by decide⟩ rfl (fun c => ?_) (fun c => ?_)
  · replace h := h.1 c
    refine e_iconst (pc' := 18) (v := (-1)) (dAt D239 9 rfl) rfl (by decide) ?_
    exact e_ireturn (dAt D239 10 rfl) rfl ⟨rfl, fun e => by cases e⟩ h
  · replace h := h.2 c
    refine e_iload_n (pc' := 14) (dAt D239 7 rfl) rfl rfl ?_
    refine e_if_ge (t := 19) (pc' := 17) (dAt D239 8 rfl) ⟨by decide, by decide⟩ rfl (fun c => ?_) (fun c => ?_)
    · replace h := h.1 c
      refine e_aload_n (pc' := 20) (dAt D239 11 rfl) rfl rfl ?_
      exact e_call2 h (dAt D239 12 rfl) (hi0 rfl) rfl G224 (by decide) rfl (Nat.le_of_ble_eq_true rfl) (kV hOx0 rfl rfl) rfl rfl
    · replace h := h.2 c
      refine e_iconst (pc' := 18) (v := (-1)) (dAt D239 9 rfl) rfl (by decide) ?_
      exact e_ireturn (dAt D239 10 rfl) rfl ⟨rfl, fun e => by cases e⟩ h
-- PlaceNetsModel.leaves.(II)I, from 23
set_option maxRecDepth 20000 in
theorem bk239_23 {d b : Nat} {Q : Option Value → mMem → Prop} {m : mMem} {x0 : Nat} {x1 : Int32} {x2 : Int32} (hT : mWT m) (hOx0 : m.1 x0 = some (.inr 8) ∧ x0 ≠ 0)
    (h : ((((iF m x0 46) = 0) → ((((iF m x0 47) ≤ x1) → (Q (some (.int ((-1)))) m)) ∧ (¬ ((iF m x0 47) ≤ x1) → ((mIn ((10 * x1) + x2) 310 = true) ∧ (Q (some (.int (m.2.2.1 (64 * x0 + 33) ((10 * x1) + x2).toNatClampNeg))) m))))) ∧ (¬ ((iF m x0 46) = 0) → (Q (some (.int ((-2)))) m)))) :
    mEs d 239 b g239 (23, [some (.ref x0), some (.int x1), some (.int x2)], [], m) Q := by
  refine e_aload_n (pc' := 24) (dAt D239 13 rfl) rfl rfl ?_
  refine e_getfield (pc' := 27) (dAt D239 14 rfl) rfl rfl hOx0 (hT.int hOx0 46 (by decide)) ?_
  refine e_if_eq (t := 33) (pc' := 30) (dAt D239 15 rfl) ⟨by decide, by decide⟩ rfl (fun c => ?_) (fun c => ?_)
  · replace h := h.1 c
    refine e_iload_n (pc' := 34) (dAt D239 18 rfl) rfl rfl ?_
    refine e_aload_n (pc' := 35) (dAt D239 19 rfl) rfl rfl ?_
    refine e_getfield (pc' := 38) (dAt D239 20 rfl) rfl rfl hOx0 (hT.int hOx0 47 (by decide)) ?_
    refine e_icmp_ge (t := 55) (pc' := 41) (dAt D239 21 rfl) ⟨by decide, by decide⟩ rfl (fun c => ?_) (fun c => ?_)
    · replace h := h.1 c
      refine e_iconst (pc' := 56) (v := (-1)) (dAt D239 31 rfl) rfl (by decide) ?_
      exact e_ireturn (dAt D239 32 rfl) rfl ⟨rfl, fun e => by cases e⟩ h
    · replace h := h.2 c
      refine e_aload_n (pc' := 42) (dAt D239 22 rfl) rfl rfl ?_
      refine e_getfield (pc' := 45) (dAt D239 23 rfl) rfl rfl hOx0 (hT.own hOx0 32 rfl) ?_
      refine e_bipush (pc' := 47) (v := 10) (dAt D239 24 rfl) rfl (by decide) ?_
      refine e_iload_n (pc' := 48) (dAt D239 25 rfl) rfl rfl ?_
      refine e_imul (pc' := 49) (dAt D239 26 rfl) rfl ?_
      refine e_iload_n (pc' := 50) (dAt D239 27 rfl) rfl rfl ?_
      refine e_iadd (pc' := 51) (dAt D239 28 rfl) rfl ?_
      obtain ⟨f1, h⟩ := h
      refine e_iaload (pc' := 52) (dAt D239 29 rfl) rfl (hT.arr hOx0 32 rfl (by decide)).1 (Or.inl (hT.arr hOx0 32 rfl (by decide)).2) f1 rfl ?_
      refine e_goto (t := 56) (dAt D239 30 rfl) ⟨by decide, by decide⟩ ?_
      exact e_ireturn (dAt D239 32 rfl) rfl ⟨rfl, fun e => by cases e⟩ h
  · replace h := h.2 c
    refine e_bipush (pc' := 32) (v := (-2)) (dAt D239 16 rfl) rfl (by decide) ?_
    exact e_ireturn (dAt D239 17 rfl) rfl ⟨rfl, fun e => by cases e⟩ h
-- PlaceNetsModel.count.(I)I, from 0
set_option maxRecDepth 20000 in
theorem bk240_0 {d b : Nat} {Q : Option Value → mMem → Prop} {m : mMem} {x0 : Nat} {x1 : Int32} (hT : mWT m) (hOx0 : m.1 x0 = some (.inr 8) ∧ x0 ≠ 0)
    (h : ∀ (m_1 : mMem), m_1 = (mSetF m x0 0 (.int 0)) → ((x1 = 0 → (Q (some (.int (iF m_1 x0 6))) m_1)) ∧ (¬ x1 = 0 → ((x1 = 1 → (Q (some (.int (iF m_1 x0 7))) m_1)) ∧ (¬ x1 = 1 → ((x1 = 2 → (mEv d 176 [.ref x0] m_1 (fun r m' => mEs d 240 b g240 (54, [some (.ref x0), some (.int x1)], r.toList ++ [], m') Q))) ∧ (¬ x1 = 2 → ((x1 = 3 → (Q (some (.int (iF m_1 x0 2))) m_1)) ∧ (¬ x1 = 3 → ((x1 = 4 → (Q (some (.int (iF m_1 x0 20))) m_1)) ∧ (¬ x1 = 4 → (Q (some (.int ((-1)))) m_1)))))))))))) :
    mEs d 240 b g240 (0, [some (.ref x0), some (.int x1)], [], m) Q := by
  refine e_aload_n (pc' := 1) (dAt D240 0 rfl) rfl rfl ?_
  refine e_iconst (pc' := 2) (v := 0) (dAt D240 1 rfl) rfl (by decide) ?_
  replace h := h _ rfl
  refine e_putfield (pc' := 5) (dAt D240 2 rfl) rfl rfl hOx0 rfl rfl (fun e => by cases e) ?_
  refine wtF hT hOx0 (by decide) (fun hT_2 => ?_)
  refine e_iload_n (pc' := 6) (dAt D240 3 rfl) rfl rfl ?_
  refine vc_if h (fun c0 h => ?_) (fun c0 h => ?_)
  · refine e_tableswitch (off := 34) (t := 40) (dAt D240 4 rfl) (by rw [c0]; rfl) ⟨by decide, by decide⟩ ?_
    refine e_aload_n (pc' := 41) (dAt D240 5 rfl) rfl rfl ?_
    refine e_getfield (pc' := 44) (dAt D240 6 rfl) rfl rfl hOx0 (hT_2.int hOx0 6 (by decide)) ?_
    exact e_ireturn (dAt D240 7 rfl) rfl ⟨rfl, fun e => by cases e⟩ h
  · skip
    refine vc_if h (fun c1 h => ?_) (fun c1 h => ?_)
    · refine e_tableswitch (off := 39) (t := 45) (dAt D240 4 rfl) (by rw [c1]; rfl) ⟨by decide, by decide⟩ ?_
      refine e_aload_n (pc' := 46) (dAt D240 8 rfl) rfl rfl ?_
      refine e_getfield (pc' := 49) (dAt D240 9 rfl) rfl rfl hOx0 (hT_2.int hOx0 7 (by decide)) ?_
      exact e_ireturn (dAt D240 10 rfl) rfl ⟨rfl, fun e => by cases e⟩ h
    · skip
      refine vc_if h (fun c2 h => ?_) (fun c2 h => ?_)
      · refine e_tableswitch (off := 44) (t := 50) (dAt D240 4 rfl) (by rw [c2]; rfl) ⟨by decide, by decide⟩ ?_
        refine e_aload_n (pc' := 51) (dAt D240 11 rfl) rfl rfl ?_
        exact e_call2 h (dAt D240 12 rfl) (hi0 rfl) rfl G176 (by decide) rfl (Nat.le_of_ble_eq_true rfl) (kV hOx0 rfl rfl) rfl rfl
      · skip
        refine vc_if h (fun c3 h => ?_) (fun c3 h => ?_)
        · refine e_tableswitch (off := 49) (t := 55) (dAt D240 4 rfl) (by rw [c3]; rfl) ⟨by decide, by decide⟩ ?_
          refine e_aload_n (pc' := 56) (dAt D240 14 rfl) rfl rfl ?_
          refine e_getfield (pc' := 59) (dAt D240 15 rfl) rfl rfl hOx0 (hT_2.int hOx0 2 (by decide)) ?_
          exact e_ireturn (dAt D240 16 rfl) rfl ⟨rfl, fun e => by cases e⟩ h
        · skip
          refine vc_if h (fun c4 h => ?_) (fun c4 h => ?_)
          · refine e_tableswitch (off := 54) (t := 60) (dAt D240 4 rfl) (by rw [c4]; rfl) ⟨by decide, by decide⟩ ?_
            refine e_aload_n (pc' := 61) (dAt D240 17 rfl) rfl rfl ?_
            refine e_getfield (pc' := 64) (dAt D240 18 rfl) rfl rfl hOx0 (hT_2.int hOx0 20 (by decide)) ?_
            exact e_ireturn (dAt D240 19 rfl) rfl ⟨rfl, fun e => by cases e⟩ h
          · skip
            refine e_tableswitch (off := 59) (t := 65) (dAt D240 4 rfl) (if_pos (sw_out (fun k h1 h2 e => by
              have hk : k = 0 ∨ k = 1 ∨ k = 2 ∨ k = 3 ∨ k = 4 := by omega
              rcases hk with rfl | rfl | rfl | rfl | rfl
              · exact c0 (Int32.toInt_inj.mp (e.trans (by decide)))
              · exact c1 (Int32.toInt_inj.mp (e.trans (by decide)))
              · exact c2 (Int32.toInt_inj.mp (e.trans (by decide)))
              · exact c3 (Int32.toInt_inj.mp (e.trans (by decide)))
              · exact c4 (Int32.toInt_inj.mp (e.trans (by decide)))
              ))) ⟨by decide, by decide⟩ ?_
            refine e_iconst (pc' := 66) (v := (-1)) (dAt D240 20 rfl) rfl (by decide) ?_
            exact e_ireturn (dAt D240 21 rfl) rfl ⟨rfl, fun e => by cases e⟩ h
-- PlaceNetsModel.count.(I)I, from 54
set_option maxRecDepth 20000 in
theorem bk240_54 {d b : Nat} {Q : Option Value → mMem → Prop} {m : mMem} {x0 : Nat} {x1 : Int32} {y0 : Int32} (hT : mWT m) (hOx0 : m.1 x0 = some (.inr 8) ∧ x0 ≠ 0)
    (h : Q (some (.int y0)) m) :
    mEs d 240 b g240 (54, [some (.ref x0), some (.int x1)], [.int y0], m) Q := by
  exact e_ireturn (dAt D240 13 rfl) rfl ⟨rfl, fun e => by cases e⟩ h
