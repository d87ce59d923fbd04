/-! Static calls, constructors, builtins. -/
theorem so_invokestatic (j : Nat) : mSoX (.invokestatic j) := by
  intro p l e R s m args below meth c H locs Q c0 s0 D cT A g d m0 mm φ0 φ L S ls pc cal mi b pc' L' S' mm' len hcal hst C hsc hdg hlen hR hF hc0 hs0 hcl hsl kk
  obtain ⟨hx, hb, hml, hr, hlk, hown, hts, hnw, hK, hA, ho, hini, hd1, hd2⟩ := C
  have hS := hF.2.2.2
  have hmls : c.maxLocals = ls.size := hml.trans hF.2.1.1.symm
  have hlen : len = 3 := hlen.resolve_right (by intro h; cases h)
  subst hlen
  unfold mStep at hst
  dsimp only at hst
  split at hst
  · rename_i cm q heq
    obtain ⟨y, hy, hy2⟩ := t_M ho heq
    have hl : Cond.methodLink (mOw g.2.2.2.2.1) j y ∈ lw_tbl := hy2.elim (fun h => h.2) (fun h => absurd rfl h.1)
    have hlk2 := hts _ (mTb_in hl rfl)
    by_cases k1 : cm = 901
    · subst k1
      unfold mInv at hst
      rw [if_pos rfl] at hst
      split at hst
      · rw [if_neg (fun h => absurd h.1 (by decide))] at hst
        cases hst
      · cases hst
    by_cases k2 : cm = 902
    · subst k2
      obtain rfl := Option.some.inj hy
      unfold mInv at hst
      rw [if_neg k1, if_pos rfl, if_pos rfl] at hst
      unfold mCpy at hst
      split at hst
      · rename_i n dp a1 sp a0 S
        split at hst
        · rename_i n0 n1 h0 h1
          split at hst
          · rename_i hc
            simp only [Bool.and_eq_true, bne_iff_ne, Bool.not_eq_true', decide_eq_false_iff_not, decide_eq_true_eq] at hc
            obtain ⟨⟨⟨⟨⟨⟨⟨⟨z0, z1⟩, z2⟩, z3⟩, z4⟩, z5⟩, z6⟩, z7⟩, z8⟩ := hc
            obtain ⟨rfl, rfl, rfl, rfl⟩ := mGo_inj hst
            obtain ⟨dom, q0, hnd, hd, hP, hD, hSS, hdq, hat⟩ := hR.cell z0 (by rw [h0]; exact fun h => by cases h)
            obtain ⟨q1, hdq1⟩ := List.getElem?_of_mem ((hd a1).mpr ⟨z1, by rw [h1]; exact fun h => by cases h⟩)
            have hat1 : (mWs cT φ mm dom)[q1]? = some (φ a1, mEc cT φ mm a1) := mWs_at hdq1
            rw [mEc_i h0 (fun h => by cases h)] at hat
            rw [mEc_i h1 (fun h => by cases h)] at hat1
            have h12 : (mSetI mm a1 (va_cpy (mm.2.2.1 a0) (mm.2.2.1 a1) sp.toNatClampNeg dp.toNatClampNeg n.toNatClampNeg)).1 a1 = some (.inl (.int, n1)) := h1
            have ew : (mWs cT φ mm dom).set q1 (φ a1, .inl (cT .int, n1, .inl (va_cpy (mm.2.2.1 a0) (mm.2.2.1 a1) sp.toNatClampNeg dp.toNatClampNeg n.toNatClampNeg))) = mWs cT φ (mSetI mm a1 (va_cpy (mm.2.2.1 a0) (mm.2.2.1 a1) sp.toNatClampNeg dp.toNatClampNeg n.toNatClampNeg)) dom := by
              rw [← mWs_set hnd hdq1 (fun j hj => mSetI_ec hj), mEc_i h12 (fun h => by cases h)]
              show _ = (mWs cT φ mm dom).set q1 (φ a1, .inl (cT .int, n1, .inl (mRow mm.2.2.1 a1 (va_cpy (mm.2.2.1 a0) (mm.2.2.1 a1) sp.toNatClampNeg dp.toNatClampNeg n.toNatClampNeg) a1)))
              rw [mRow_eq]
            refine va_copyi (ty := .int) hx hb hmls hown hlk2 (hts _ (mTb_in t_b2a.mem rfl)) (hts _ (mTb_in t_b2b.mem rfl)) (hts _ (mTb_in t_b2c.mem rfl)) hK hP hD hSS q0 q1 0 0 hat hat1 rfl rfl rfl z2 z3 z4 z5 z6 (fun _ _ => rfl) (by omega) ?_ hdg (fun H1 locs1 hP1 hD1 hS1 => ?_)
            · have e1 := mCv_sum φ S
              have e2 : nativeFrameWords "java/lang/System" "arraycopy" 5 = 7 := by decide +kernel
              rw [e1, e2]
              omega
            · rw [ew] at hP1 hD1
              exact kk φ H1 locs1 ls (hR.setI z1 hnd hd hP1 hD1 hS1) (hF.mem rfl hS.tl.tl.tl.tl.tl)
          · cases hst
        · cases hst
      · cases hst
    by_cases k3 : cm = 903
    · subst k3
      obtain rfl := Option.some.inj hy
      unfold mInv at hst
      rw [if_neg k1, if_neg k2, if_pos rfl] at hst
      split at hst
      · rename_i y x S
        split at hst
        · rename_i hc
          obtain ⟨rfl, rfl, rfl, rfl⟩ := mGo_inj hst
          have e1 := mCv_sum φ S
          exact va_mmax hx hb hmls hown hlk2 (hts _ (mTb_in t_b3a.mem rfl)) (hts _ (mTb_in t_b3.mem rfl)) (hts _ (mTb_in t_b3b.mem rfl)) (by omega) (by rw [e1]; omega) hcl hsl hdg (kk φ H locs ls hR (hF.stk hS.tl.tl.int))
        · cases hst
      · cases hst
    by_cases k4 : cm = 904
    · subst k4
      obtain rfl := Option.some.inj hy
      unfold mInv at hst
      rw [if_neg k1, if_neg k2, if_neg k3, if_pos rfl] at hst
      split at hst
      · rename_i y x S
        split at hst
        · rename_i hc
          obtain ⟨rfl, rfl, rfl, rfl⟩ := mGo_inj hst
          have e1 := mCv_sum φ S
          exact va_mmin_long hx hb hmls hown hlk2 (hts _ (mTb_in t_b4a.mem rfl)) (hts _ (mTb_in t_b3.mem rfl)) (hts _ (mTb_in t_b4b.mem rfl)) (by omega) (by rw [e1]; omega) hcl hsl hdg (kk φ H locs ls hR (hF.stk hS.tl.tl.long))
        · cases hst
      · cases hst
    by_cases k5 : cm = 905
    · subst k5
      obtain rfl := Option.some.inj hy
      unfold mInv at hst
      rw [if_neg k1, if_neg k2, if_neg k3, if_neg k4, if_pos rfl] at hst
      split at hst
      · rename_i x S
        split at hst
        · rename_i hc
          obtain ⟨rfl, rfl, rfl, rfl⟩ := mGo_inj hst
          have e1 := mCv_sum φ S
          exact va_mabs_long hx hb hmls hown hlk2 (hts _ (mTb_in t_b5a.mem rfl)) (hts _ (mTb_in t_b3.mem rfl)) (hts _ (mTb_in t_b5b.mem rfl)) (by omega) (by rw [e1]; omega) hcl hsl hdg (kk φ H locs ls hR (hF.stk hS.tl.long))
        · cases hst
      · cases hst
    obtain ⟨g1, r, hg, h0, hnp, hsum, hkok, hcal1, rfl, rfl, rfl⟩ := mInv_reg hst k1 k2 k3 k4 k5
    rw [(mBn_reg hg).1] at hy
    obtain rfl := Option.some.inj hy
    have hsp := mStk_split S g1.2.2.2.2.2.1
    have hal : ((S.take g1.2.2.2.2.2.1).reverse).length = g1.2.2.2.2.2.1 := by rw [List.length_reverse, List.length_take]; omega
    generalize (S.take g1.2.2.2.2.2.1).reverse = As at *
    generalize S.drop g1.2.2.2.2.2.1 = rest at *
    have hst9 := mKok2 hkok
    have hokA : mOkS mm As := fun v hv => hS v (by rw [hsp]; exact List.mem_append_left _ (List.mem_reverse.mpr hv))
    have hokR : mOkS mm rest := fun v hv => hS v (by rw [hsp]; exact List.mem_append_right _ hv)
    obtain ⟨h1d, hc1, hs1, hM⟩ := hcal cm _ mm r mm' g1 hcal1 hg h0 hR.1 hokA
    obtain ⟨G1, G2, G3, G4, G5, G6, G7⟩ := t_G hg h0
    obtain ⟨I1, I2, I3⟩ := t_Gs hg h0 hst9
    have hst0 : S.map (mCv φ) = (As.map (mCv φ)).reverse ++ rest.map (mCv φ) := by rw [hsp, List.map_append, List.map_reverse]
    rw [hst0]
    have hlenA : (As.map (mCv φ)).length = g1.2.2.2.2.2.1 := by rw [List.length_map]; exact hal
    have hGood : GoodIn mTb (mWd g1) := mTb_GoodIn (mWd_in hg h0)
    refine mAfter (g := g) (va_runS (Ts := mTb) (n := g1.2.2.2.2.2.1) (bytes := g1.2.1) (maxL := g1.2.2.1) (ret := g1.2.2.2.1) (As := As.map (mCv φ)) (rest := rest.map (mCv φ)) ⟨hx, hb, hml, hown, hts⟩ (hM φ H.size) ⟨callB_of _ hts hGood rfl rfl rfl (hts _ (mTb_in G2 rfl)) hlk2 ⟨G7.1, G7.2, I2⟩ (mRoomOk h1d hd1 hd2 G6), hts _ (mTb_in I1 rfl)⟩ ⟨mPB_blind, mPre hR hK hnw As⟩ rfl hlenA hF.2.1.1 rfl (lv_room (by rw [mCv_sum]; exact hsum)) hdg ?_) hR hA (hF.stk hokR) hc0 hs0 hc1 hs1 kk
    exact ⟨by omega, by omega⟩
  · cases hst
theorem so_invokespecial (j : Nat) : mSoX (.invokespecial j) := by
  intro p l e R s m args below meth c H locs Q c0 s0 D cT A g d m0 mm φ0 φ L S ls pc cal mi b pc' L' S' mm' len hcal hst C hsc hdg hlen hR hF hc0 hs0 hcl hsl kk
  obtain ⟨hx, hb, hml, hr, hlk, hown, hts, hnw, hK, hA, ho, hini, hd1, hd2⟩ := C
  have hS := hF.2.2.2
  have hlen : len = 3 := hlen.resolve_right (by intro h; cases h)
  subst hlen
  unfold mStep at hst
  dsimp only at hst
  split at hst
  · rename_i cm q z heq
    obtain ⟨y, hy, hy2⟩ := t_M ho heq
    by_cases k1 : cm = 901
    · subst k1
      obtain rfl := Option.some.inj hy
      have hl : Cond.methodLink (mOw g.2.2.2.2.1) j objectInit ∈ lw_tbl := hy2.elim (fun h => h.2) (fun h => absurd h.2.1 (by decide))
      unfold mInv at hst
      rw [if_pos rfl] at hst
      split at hst
      · rename_i k S
        split at hst
        · rename_i hc
          obtain ⟨rfl, rfl, rfl, rfl⟩ := mGo_inj hst
          have e1 := mCv_sum φ S
          refine W.objInit hx hb hown (hts _ (mTb_in hl rfl)) (hts _ (mTb_in t_b1a.mem rfl)) (hts _ (mTb_in t_b1b.mem rfl)) rfl (by rw [hml]; exact hF.2.1.1) rfl hdg (by omega) ?_ (kk φ H locs ls hR (hF.stk hS.tl))
          show 2 * 0 + ((S.map (mCv φ)).map fun v => v.category).sum + 12 ≤ _
          rw [e1]
          omega
        · cases hst
      · cases hst
    have hn : ∀ k, (k = 902 ∨ k = 903 ∨ k = 904 ∨ k = 905) → cm ≠ k := by
      intro k hk he
      rw [he] at hst
      rcases hk with rfl | rfl | rfl | rfl <;> (simp only [mInv] at hst; revert hst; simp) <;> (split <;> simp)
    obtain ⟨g1, r, hg, h0, hnp, hsum, hkok, hcal1, rfl, rfl, rfl⟩ := mInv_reg hst k1 (hn 902 (by simp)) (hn 903 (by simp)) (hn 904 (by simp)) (hn 905 (by simp))
    rw [(mBn_reg hg).1] at hy
    obtain rfl := Option.some.inj hy
    have hsp := mStk_split S g1.2.2.2.2.2.1
    have hal : ((S.take g1.2.2.2.2.2.1).reverse).length = g1.2.2.2.2.2.1 := by rw [List.length_reverse, List.length_take]; omega
    generalize (S.take g1.2.2.2.2.2.1).reverse = As at *
    generalize S.drop g1.2.2.2.2.2.1 = rest at *
    obtain ⟨k, As, rfl, hne, hin⟩ := mKok1 hkok
    have hokA : mOkS mm (.ref k :: As) := fun v hv => hS v (by rw [hsp]; exact List.mem_append_left _ (List.mem_reverse.mpr hv))
    have hokR : mOkS mm rest := fun v hv => hS v (by rw [hsp]; exact List.mem_append_right _ hv)
    obtain ⟨h1d, hc1, hs1, hM⟩ := hcal cm _ mm r mm' g1 hcal1 hg h0 hR.1 hokA
    obtain ⟨G1, G2, G3, G4, G5, G6, G7⟩ := t_G hg h0
    obtain ⟨I1, ⟨n, I2, I3⟩, ⟨q1, I4, I5⟩, I6, I7⟩ := t_Gi hg h0 hne
    obtain ⟨I6, I8⟩ := I6 hin
    have hst0 : S.map (mCv φ) = (As.map (mCv φ)).reverse ++ .ref (φ k) :: rest.map (mCv φ) := by
      rw [hsp, List.map_append, List.reverse_cons, List.map_append, List.map_reverse, List.append_assoc]
      rfl
    rw [hst0]
    have hlenA : (As.map (mCv φ)).length = n := by rw [List.length_map]; have : As.length + 1 = _ := hal; omega
    have hGood : GoodIn mTb (mWd g1) := mTb_GoodIn (mWd_in hg h0)
    have hwd : mWd g1 = Cond.code g1.1 g1.2.1 g1.2.2.1 none :: mTb := by unfold mWd; rw [I8]
    have hf : mm.2.2.2.2.1 - c0 + (mm'.2.2.2.2.1 - mm.2.2.2.2.1) ≤ R.cells ∧ mm.2.2.2.2.2 - s0 + (mm'.2.2.2.2.2 - mm.2.2.2.2.2) ≤ R.slots := ⟨by omega, by omega⟩
    rcases hy2 with ⟨-, hl⟩ | ⟨-, -, hl⟩
    · exact mAfter (g := g) (va_runI (Ts := mTb) (n := n) (bytes := g1.2.1) (maxL := g1.2.2.1) (As := As.map (mCv φ)) (rest := rest.map (mCv φ)) ⟨hx, hb, hml, hown, hts⟩ (hM φ H.size) (cwI n hts hGood hwd rfl rfl (hts _ (mTb_in G2 rfl)) (hts _ (mTb_in hl rfl)) (hts _ (mTb_in I1 rfl)) I6 ⟨G7.1, G7.2, I2⟩ (mRoomOk h1d hd1 hd2 G6)) ⟨mPB_blind, mPre hR hK hnw (.ref k :: As)⟩ rfl hlenA hF.2.1.1 rfl (lv_room (by rw [mCv_sum]; exact hsum)) hdg hf) hR hA (hF.stk hokR) hc0 hs0 hc1 hs1 kk
    · exact mAfter (g := g) (va_runIN (Ts := mTb) (n := n) (host := "PlaceNets") (bytes := g1.2.1) (maxL := g1.2.2.1) (As := As.map (mCv φ)) (rest := rest.map (mCv φ)) ⟨hx, hb, hml, hown, hts⟩ (hM φ H.size) ⟨va_cnB n hts hGood hwd rfl rfl (hnw _ (mNst_in hl)) (hts _ (mTb_in G2 rfl)) ⟨G7.1, G7.2, I2⟩ (mRoomOk h1d hd1 hd2 G6), I6, hts _ (mTb_in I1 rfl)⟩ ⟨mPB_blind, mPre hR hK hnw (.ref k :: As)⟩ rfl hlenA hF.2.1.1 rfl (lv_room (by rw [mCv_sum]; exact hsum)) hdg hf) hR hA (hF.stk hokR) hc0 hs0 hc1 hs1 kk
  · cases hst
