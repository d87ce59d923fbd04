/-! Steps that touch memory, one by one. -/
theorem so_getfield (j : Nat) : mSoM (.getfield j) := by
  intro p l e R s m args below meth c H locs Q c0 s0 D cT A g d m0 mm φ0 φ L S ls nL pc cal mi b pc' L' S' mm' len hst C hsc hdg hlen hR hF hc0 hs0 hcl hsl kk
  obtain ⟨hx, hb, hml, hr, hlk, hown, hts, hnw, hK, hA, ho, hini, hd1, hd2⟩ := C
  have hS := hF.2.2.2
  have hlen : len = 3 := hlen.resolve_right (by intro h; cases h)
  subst hlen
  unfold mStep at hst
  dsimp only at hst
  split at hst
  · rename_i ci f q k S heq
    split at hst
    · rename_i hk
      obtain ⟨hk, hk0⟩ := hk
      obtain ⟨rfl, rfl, rfl, rfl⟩ := mGo_inj hst
      obtain ⟨q, hq, hf, hw⟩ := t_F ho heq
      obtain ⟨c1, c2, c3, c4, c5, c6, c7⟩ := t_C hq
      obtain ⟨dom, q0, hn, hd, hP, hD, hSS, hdq, hat⟩ := hR.cell hk0 (by rw [hk]; exact fun h => by cases h)
      rw [mEc_o hk] at hat
      exact va_get (D := D) (v := mCv φ (mm.2.1 k f)) hx hb hts (fun w hw => mTb_in (c1 w hw) (mLays_good w hw)) hown hK hP q0 hat hq f hf (hts _ (mTb_in hw rfl)) (fun x h => by rw [c4 f hf] at h; exact h) (by rw [List.getElem?_map, List.getElem?_range (by rw [← c7]; exact hf)]; rfl) hdg (kk φ H locs ls hR (hF.stk (hS.tl.cons ((hR.1.1 k ci hk).2 f))))
    · cases hst
  · cases hst
theorem so_putfield (j : Nat) : mSoM (.putfield j) := by
  intro p l e R s m args below meth c H locs Q c0 s0 D cT A g d m0 mm φ0 φ L S ls nL pc cal mi b pc' L' S' mm' len hst C hsc hdg hlen hR hF hc0 hs0 hcl hsl kk
  obtain ⟨hx, hb, hml, hr, hlk, hown, hts, hnw, hK, hA, ho, hini, hd1, hd2⟩ := C
  have hS := hF.2.2.2
  have hlen : len = 3 := hlen.resolve_right (by intro h; cases h)
  subst hlen
  unfold mStep at hst
  dsimp only at hst
  split at hst
  · rename_i ci f q v k S heq
    split at hst
    · rename_i hk
      obtain ⟨hk, hk0, hnar, hfit, hfin⟩ := hk
      obtain ⟨rfl, rfl, rfl, rfl⟩ := mGo_inj hst
      obtain ⟨q, hq, hf, hw⟩ := t_F ho heq
      obtain ⟨c1, c2, c3, c4, c5, c6, c7⟩ := t_C hq
      obtain ⟨dom, q0, hn, hd, hP, hD, hSS, hdq, hat⟩ := hR.cell hk0 (by rw [hk]; exact fun h => by cases h)
      rw [mEc_o hk] at hat
      have hk2 : (mSetF mm k f v).1 k = some (.inr ci) := hk
      have ew : (mWs cT φ mm dom).set q0 (φ k, .inr (ci, ((List.range (mNf ci)).map (fun i => mCv φ (mm.2.1 k i))).set f (mCv φ v))) = mWs cT φ (mSetF mm k f v) dom := by
        rw [← mRange_set, ← mWs_set hn hdq (fun j hj => mSetF_ec hj), mEc_o hk2]
        refine congrArg (fun z => (mWs cT φ mm dom).set q0 (φ k, Sum.inr (ci, z))) (List.map_congr_left (fun i _ => ?_))
        show _ = mCv φ (mRow mm.2.1 k (updV (mm.2.1 k) f v) k i)
        rw [mRow_eq]
      have hl : f < ((List.range (mNf ci)).map (fun i => mCv φ (mm.2.1 k i))).length := by rw [List.length_map, List.length_range, ← c7]; exact hf
      have hgo : ∀ (H1 : Heap) (locs1 : List Loc), va_P D mCl ((mWs cT φ mm dom).set q0 (φ k, .inr (ci, ((List.range (mNf ci)).map (fun i => mCv φ (mm.2.1 k i))).set f (mCv φ v)))) H1 → va_D A ((mWs cT φ mm dom).set q0 (φ k, .inr (ci, ((List.range (mNf ci)).map (fun i => mCv φ (mm.2.1 k i))).set f (mCv φ v)))) → va_S A s.heap H1 locs1 → W p l e R s m args below meth c H1 locs1 (mm.2.2.2.2.1 - c0) (mm.2.2.2.2.2 - s0) Q (F0 m (pc + 3) ls (S.map (mCv φ))) := by
        intro H1 locs1 hP1 hD1 hS1
        rw [ew] at hP1 hD1
        exact kk φ H1 locs1 ls (hR.setF hS.hd hn hd hP1 hD1 hS1) (hF.mem rfl hS.tl.tl)
      cases hfi : (q.2.1 f).2.2.2 with
      | false => exact va_put (D := D) (ty := mTy ci f) hx hb hts (fun w hw => mTb_in (c1 w hw) (mLays_good w hw)) (mTy ci) c2 c3 hown hK hP hD hSS q0 hat hq f hf (hts _ (mTb_in hw rfl)) (fun x h => by rw [c4 f hf] at h; exact h) hfi (c2 f hf) (mCv_narrow hnar) (mCv_fits hfit) hl hdg hgo
      | true =>
        have h1 := hfin (by rw [hq]; show some ((q.2.1 f).2.2.2) = _; rw [hfi])
        obtain ⟨i1, q', hq', i2⟩ := hini h1.1
        rw [h1.2, hq] at hq'
        obtain rfl := Option.some.inj hq'
        exact va_putF (D := D) (ty := mTy ci f) hx hb hts (fun w hw => mTb_in (c1 w hw) (mLays_good w hw)) (mTy ci) c2 c3 hown hK hP hD hSS q0 hat hq f hf (hts _ (mTb_in hw rfl)) (fun x h => by rw [c4 f hf] at h; exact h) hfi i1 ((c4 f hf).trans i2) (c2 f hf) (mCv_narrow hnar) (mCv_fits hfit) hl hdg hgo
    · cases hst
  · cases hst
theorem mArT_ty {i : Instr} {ty : FieldType} (h : mArT i ty = true) : ty ≠ .long ∧ ((ty = .int ∧ (i = .iaload ∨ i = .iastore)) ∨ (ty = .byte ∧ (i = .baload ∨ i = .bastore)) ∨ (ty = .boolean ∧ (i = .baload ∨ i = .bastore)) ∨ (ty = .char ∧ (i = .caload ∨ i = .castore))) := by
  cases i
  case iaload => have h : ty = .int := by simpa [mArT] using h
                 subst h; simp
  case iastore => have h : ty = .int := by simpa [mArT] using h
                  subst h; simp
  case caload => have h : ty = .char := by simpa [mArT] using h
                 subst h; simp
  case castore => have h : ty = .char := by simpa [mArT] using h
                  subst h; simp
  case baload => have h : ty = .byte ∨ ty = .boolean := by simpa [mArT] using h
                 rcases h with h | h <;> subst h <;> simp
  case bastore => have h : ty = .byte ∨ ty = .boolean := by simpa [mArT] using h
                  rcases h with h | h <;> subst h <;> simp
  all_goals exact Bool.noConfusion (show false = true from h)
theorem so_iaload : mSoM (.iaload) := by
  intro p l e R s m args below meth c H locs Q c0 s0 D cT A g d m0 mm φ0 φ L S ls nL pc cal mi b pc' L' S' mm' len hst C hsc hdg hlen hR hF hc0 hs0 hcl hsl kk
  obtain ⟨hx, hb, hml, hr, hlk, hown, hts, hnw, hK, hA, ho, hini, hd1, hd2⟩ := C
  have hS := hF.2.2.2
  have hlen : len = 1 := hlen.resolve_right (by intro h; cases h)
  subst hlen
  unfold mStep at hst
  dsimp only [mLoad] at hst
  split at hst
  · rename_i j k S
    split at hst
    · rename_i ty n heq
      split at hst
      · rename_i hc
        simp only [Bool.and_eq_true] at hc
        obtain ⟨⟨hty, hin⟩, hk⟩ := hc
        obtain ⟨rfl, rfl, rfl, rfl⟩ := mGo_inj hst
        have hin := mIn_in hin
        by_cases hk0 : k = 0
        · subst hk0
          simp only [bne_self_eq_false, Bool.false_or, beq_iff_eq] at hk
          obtain ⟨n', xs, hX, hbl, hbA, hm0, hxs⟩ := hsc hk
          obtain ⟨e1, e2⟩ := hR.2.1.1 0 (by rw [hm0]; exact fun h => by cases h)
          have e3 : n' = n := by rw [heq, hm0] at e2; cases e2; rfl
          subst e3
          obtain ⟨-, -, dom, hn, hd, hP, hD, hSS⟩ := id hR
          have hkk := kk φ H locs ls hR (hF.stk hS.tl.tl.int)
          rw [hR.2.1.2, hxs] at hkk
          show W _ _ _ _ _ _ _ _ _ _ _ _ _ _ _ (F0 m pc ls (.int j :: .ref (φ 0) :: S.map (mCv φ)))
          rw [e1]
          exact va_sld hx hb hX hbl hbA hSS hin hdg hkk
        · obtain ⟨dom, q0, hn, hd, hP, hD, hSS, hdq, hat⟩ := hR.cell hk0 (by rw [heq]; exact fun h => by cases h)
          obtain ⟨ht1, ht2⟩ := mArT_ty hty
          rw [mEc_i heq ht1] at hat
          have ht3 : ty = .int := by rcases ht2 with ⟨h, z⟩ | ⟨h, z⟩ | ⟨h, z⟩ | ⟨h, z⟩ <;> first | exact h | (rcases z with z | z <;> cases z)
          subst ht3
          exact va_iald hx hb hK hP q0 0 hat rfl hin hdg (kk φ H locs ls hR (hF.stk hS.tl.tl.int))
      · cases hst
    · cases hst
  · cases hst
theorem so_baload : mSoM (.baload) := by
  intro p l e R s m args below meth c H locs Q c0 s0 D cT A g d m0 mm φ0 φ L S ls nL pc cal mi b pc' L' S' mm' len hst C hsc hdg hlen hR hF hc0 hs0 hcl hsl kk
  obtain ⟨hx, hb, hml, hr, hlk, hown, hts, hnw, hK, hA, ho, hini, hd1, hd2⟩ := C
  have hS := hF.2.2.2
  have hlen : len = 1 := hlen.resolve_right (by intro h; cases h)
  subst hlen
  unfold mStep at hst
  dsimp only [mLoad] at hst
  split at hst
  · rename_i j k S
    split at hst
    · rename_i ty n heq
      split at hst
      · rename_i hc
        simp only [Bool.and_eq_true] at hc
        obtain ⟨⟨hty, hin⟩, hk⟩ := hc
        obtain ⟨rfl, rfl, rfl, rfl⟩ := mGo_inj hst
        have hin := mIn_in hin
        by_cases hk0 : k = 0
        · subst hk0
          simp only [bne_self_eq_false, Bool.false_or, beq_iff_eq] at hk
          obtain ⟨n', xs, hX, hbl, hbA, hm0, hxs⟩ := hsc hk
          obtain ⟨e1, e2⟩ := hR.2.1.1 0 (by rw [hm0]; exact fun h => by cases h)
          rw [heq, hm0] at e2
          cases e2
          exact Bool.noConfusion (show false = true from hty)
        · obtain ⟨dom, q0, hn, hd, hP, hD, hSS, hdq, hat⟩ := hR.cell hk0 (by rw [heq]; exact fun h => by cases h)
          obtain ⟨ht1, ht2⟩ := mArT_ty hty
          rw [mEc_i heq ht1] at hat
          have ht3 : ty = .byte ∨ ty = .boolean := by rcases ht2 with ⟨h, z⟩ | ⟨h, z⟩ | ⟨h, z⟩ | ⟨h, z⟩ <;> first | exact Or.inl h | exact Or.inr h | (rcases z with z | z <;> cases z)
          rcases ht3 with rfl | rfl
          · exact va_bald hx hb hK hP q0 2 hat rfl hin hdg (kk φ H locs ls hR (hF.stk hS.tl.tl.int))
          · exact va_zald hx hb hK hP q0 4 hat rfl hin hdg (kk φ H locs ls hR (hF.stk hS.tl.tl.int))
      · cases hst
    · cases hst
  · cases hst
theorem so_caload : mSoM (.caload) := by
  intro p l e R s m args below meth c H locs Q c0 s0 D cT A g d m0 mm φ0 φ L S ls nL pc cal mi b pc' L' S' mm' len hst C hsc hdg hlen hR hF hc0 hs0 hcl hsl kk
  obtain ⟨hx, hb, hml, hr, hlk, hown, hts, hnw, hK, hA, ho, hini, hd1, hd2⟩ := C
  have hS := hF.2.2.2
  have hlen : len = 1 := hlen.resolve_right (by intro h; cases h)
  subst hlen
  unfold mStep at hst
  dsimp only [mLoad] at hst
  split at hst
  · rename_i j k S
    split at hst
    · rename_i ty n heq
      split at hst
      · rename_i hc
        simp only [Bool.and_eq_true] at hc
        obtain ⟨⟨hty, hin⟩, hk⟩ := hc
        obtain ⟨rfl, rfl, rfl, rfl⟩ := mGo_inj hst
        have hin := mIn_in hin
        by_cases hk0 : k = 0
        · subst hk0
          simp only [bne_self_eq_false, Bool.false_or, beq_iff_eq] at hk
          obtain ⟨n', xs, hX, hbl, hbA, hm0, hxs⟩ := hsc hk
          obtain ⟨e1, e2⟩ := hR.2.1.1 0 (by rw [hm0]; exact fun h => by cases h)
          rw [heq, hm0] at e2
          cases e2
          exact Bool.noConfusion (show false = true from hty)
        · obtain ⟨dom, q0, hn, hd, hP, hD, hSS, hdq, hat⟩ := hR.cell hk0 (by rw [heq]; exact fun h => by cases h)
          obtain ⟨ht1, ht2⟩ := mArT_ty hty
          rw [mEc_i heq ht1] at hat
          have ht3 : ty = .char := by rcases ht2 with ⟨h, z⟩ | ⟨h, z⟩ | ⟨h, z⟩ | ⟨h, z⟩ <;> first | exact h | (rcases z with z | z <;> cases z)
          subst ht3
          exact va_cald hx hb hK hP q0 3 hat rfl hin hdg (kk φ H locs ls hR (hF.stk hS.tl.tl.int))
      · cases hst
    · cases hst
  · cases hst
theorem so_iastore : mSoM (.iastore) := by
  intro p l e R s m args below meth c H locs Q c0 s0 D cT A g d m0 mm φ0 φ L S ls nL pc cal mi b pc' L' S' mm' len hst C hsc hdg hlen hR hF hc0 hs0 hcl hsl kk
  obtain ⟨hx, hb, hml, hr, hlk, hown, hts, hnw, hK, hA, ho, hini, hd1, hd2⟩ := C
  have hS := hF.2.2.2
  have hlen : len = 1 := hlen.resolve_right (by intro h; cases h)
  subst hlen
  unfold mStep at hst
  dsimp only [mStore] at hst
  split at hst
  · rename_i x j k S
    split at hst
    · rename_i ty n heq
      split at hst
      · rename_i hc
        simp only [Bool.and_eq_true, bne_iff_ne] at hc
        obtain ⟨⟨hty, hin⟩, hk0⟩ := hc
        obtain ⟨rfl, rfl, rfl, rfl⟩ := mGo_inj hst
        have hin := mIn_in hin
        obtain ⟨dom, q0, hn, hd, hP, hD, hSS, hdq, hat⟩ := hR.cell hk0 (by rw [heq]; exact fun h => by cases h)
        obtain ⟨ht1, ht2⟩ := mArT_ty hty
        rw [mEc_i heq ht1] at hat
        have heq2 : (mSetI mm k (upd (mm.2.2.1 k) j.toNatClampNeg (vp_nar ty x))).1 k = some (.inl (ty, n)) := heq
        have ew : (mWs cT φ mm dom).set q0 (φ k, .inl (cT ty, n, .inl (upd (mm.2.2.1 k) j.toNatClampNeg (vp_nar ty x)))) = mWs cT φ (mSetI mm k (upd (mm.2.2.1 k) j.toNatClampNeg (vp_nar ty x))) dom := by
          rw [← mWs_set hn hdq (fun j hj => mSetI_ec hj), mEc_i heq2 ht1]
          show _ = (mWs cT φ mm dom).set q0 (φ k, .inl (cT ty, n, .inl (mRow mm.2.2.1 k (upd (mm.2.2.1 k) j.toNatClampNeg (vp_nar ty x)) k)))
          rw [mRow_eq]
        have hgo : ∀ (H1 : Heap) (locs1 : List Loc), va_P D mCl ((mWs cT φ mm dom).set q0 (φ k, .inl (cT ty, n, .inl (upd (mm.2.2.1 k) j.toNatClampNeg (vp_nar ty x))))) H1 → va_D A ((mWs cT φ mm dom).set q0 (φ k, .inl (cT ty, n, .inl (upd (mm.2.2.1 k) j.toNatClampNeg (vp_nar ty x))))) → va_S A s.heap H1 locs1 → W p l e R s m args below meth c H1 locs1 (mm.2.2.2.2.1 - c0) (mm.2.2.2.2.2 - s0) Q (F0 m (pc + 1) ls (S.map (mCv φ))) := by
          intro H1 locs1 hP1 hD1 hS1
          rw [ew] at hP1 hD1
          exact kk φ H1 locs1 ls (hR.setI hk0 hn hd hP1 hD1 hS1) (hF.mem rfl hS.tl.tl.tl)
        have ht3 : ty = .int := by rcases ht2 with ⟨h, z⟩ | ⟨h, z⟩ | ⟨h, z⟩ | ⟨h, z⟩ <;> first | exact h | (rcases z with z | z <;> cases z)
        subst ht3
        exact va_iast hx hb hK hP hD hSS q0 0 hat rfl hin hdg hgo
      · cases hst
    · cases hst
  · cases hst
theorem so_bastore : mSoM (.bastore) := by
  intro p l e R s m args below meth c H locs Q c0 s0 D cT A g d m0 mm φ0 φ L S ls nL pc cal mi b pc' L' S' mm' len hst C hsc hdg hlen hR hF hc0 hs0 hcl hsl kk
  obtain ⟨hx, hb, hml, hr, hlk, hown, hts, hnw, hK, hA, ho, hini, hd1, hd2⟩ := C
  have hS := hF.2.2.2
  have hlen : len = 1 := hlen.resolve_right (by intro h; cases h)
  subst hlen
  unfold mStep at hst
  dsimp only [mStore] at hst
  split at hst
  · rename_i x j k S
    split at hst
    · rename_i ty n heq
      split at hst
      · rename_i hc
        simp only [Bool.and_eq_true, bne_iff_ne] at hc
        obtain ⟨⟨hty, hin⟩, hk0⟩ := hc
        obtain ⟨rfl, rfl, rfl, rfl⟩ := mGo_inj hst
        have hin := mIn_in hin
        obtain ⟨dom, q0, hn, hd, hP, hD, hSS, hdq, hat⟩ := hR.cell hk0 (by rw [heq]; exact fun h => by cases h)
        obtain ⟨ht1, ht2⟩ := mArT_ty hty
        rw [mEc_i heq ht1] at hat
        have heq2 : (mSetI mm k (upd (mm.2.2.1 k) j.toNatClampNeg (vp_nar ty x))).1 k = some (.inl (ty, n)) := heq
        have ew : (mWs cT φ mm dom).set q0 (φ k, .inl (cT ty, n, .inl (upd (mm.2.2.1 k) j.toNatClampNeg (vp_nar ty x)))) = mWs cT φ (mSetI mm k (upd (mm.2.2.1 k) j.toNatClampNeg (vp_nar ty x))) dom := by
          rw [← mWs_set hn hdq (fun j hj => mSetI_ec hj), mEc_i heq2 ht1]
          show _ = (mWs cT φ mm dom).set q0 (φ k, .inl (cT ty, n, .inl (mRow mm.2.2.1 k (upd (mm.2.2.1 k) j.toNatClampNeg (vp_nar ty x)) k)))
          rw [mRow_eq]
        have hgo : ∀ (H1 : Heap) (locs1 : List Loc), va_P D mCl ((mWs cT φ mm dom).set q0 (φ k, .inl (cT ty, n, .inl (upd (mm.2.2.1 k) j.toNatClampNeg (vp_nar ty x))))) H1 → va_D A ((mWs cT φ mm dom).set q0 (φ k, .inl (cT ty, n, .inl (upd (mm.2.2.1 k) j.toNatClampNeg (vp_nar ty x))))) → va_S A s.heap H1 locs1 → W p l e R s m args below meth c H1 locs1 (mm.2.2.2.2.1 - c0) (mm.2.2.2.2.2 - s0) Q (F0 m (pc + 1) ls (S.map (mCv φ))) := by
          intro H1 locs1 hP1 hD1 hS1
          rw [ew] at hP1 hD1
          exact kk φ H1 locs1 ls (hR.setI hk0 hn hd hP1 hD1 hS1) (hF.mem rfl hS.tl.tl.tl)
        have ht3 : ty = .byte ∨ ty = .boolean := by rcases ht2 with ⟨h, z⟩ | ⟨h, z⟩ | ⟨h, z⟩ | ⟨h, z⟩ <;> first | exact Or.inl h | exact Or.inr h | (rcases z with z | z <;> cases z)
        rcases ht3 with rfl | rfl
        · exact va_bast hx hb hK hP hD hSS q0 2 hat rfl hin hdg hgo
        · exact va_zast hx hb hK hP hD hSS q0 4 hat rfl hin hdg hgo
      · cases hst
    · cases hst
  · cases hst
theorem so_castore : mSoM (.castore) := by
  intro p l e R s m args below meth c H locs Q c0 s0 D cT A g d m0 mm φ0 φ L S ls nL pc cal mi b pc' L' S' mm' len hst C hsc hdg hlen hR hF hc0 hs0 hcl hsl kk
  obtain ⟨hx, hb, hml, hr, hlk, hown, hts, hnw, hK, hA, ho, hini, hd1, hd2⟩ := C
  have hS := hF.2.2.2
  have hlen : len = 1 := hlen.resolve_right (by intro h; cases h)
  subst hlen
  unfold mStep at hst
  dsimp only [mStore] at hst
  split at hst
  · rename_i x j k S
    split at hst
    · rename_i ty n heq
      split at hst
      · rename_i hc
        simp only [Bool.and_eq_true, bne_iff_ne] at hc
        obtain ⟨⟨hty, hin⟩, hk0⟩ := hc
        obtain ⟨rfl, rfl, rfl, rfl⟩ := mGo_inj hst
        have hin := mIn_in hin
        obtain ⟨dom, q0, hn, hd, hP, hD, hSS, hdq, hat⟩ := hR.cell hk0 (by rw [heq]; exact fun h => by cases h)
        obtain ⟨ht1, ht2⟩ := mArT_ty hty
        rw [mEc_i heq ht1] at hat
        have heq2 : (mSetI mm k (upd (mm.2.2.1 k) j.toNatClampNeg (vp_nar ty x))).1 k = some (.inl (ty, n)) := heq
        have ew : (mWs cT φ mm dom).set q0 (φ k, .inl (cT ty, n, .inl (upd (mm.2.2.1 k) j.toNatClampNeg (vp_nar ty x)))) = mWs cT φ (mSetI mm k (upd (mm.2.2.1 k) j.toNatClampNeg (vp_nar ty x))) dom := by
          rw [← mWs_set hn hdq (fun j hj => mSetI_ec hj), mEc_i heq2 ht1]
          show _ = (mWs cT φ mm dom).set q0 (φ k, .inl (cT ty, n, .inl (mRow mm.2.2.1 k (upd (mm.2.2.1 k) j.toNatClampNeg (vp_nar ty x)) k)))
          rw [mRow_eq]
        have hgo : ∀ (H1 : Heap) (locs1 : List Loc), va_P D mCl ((mWs cT φ mm dom).set q0 (φ k, .inl (cT ty, n, .inl (upd (mm.2.2.1 k) j.toNatClampNeg (vp_nar ty x))))) H1 → va_D A ((mWs cT φ mm dom).set q0 (φ k, .inl (cT ty, n, .inl (upd (mm.2.2.1 k) j.toNatClampNeg (vp_nar ty x))))) → va_S A s.heap H1 locs1 → W p l e R s m args below meth c H1 locs1 (mm.2.2.2.2.1 - c0) (mm.2.2.2.2.2 - s0) Q (F0 m (pc + 1) ls (S.map (mCv φ))) := by
          intro H1 locs1 hP1 hD1 hS1
          rw [ew] at hP1 hD1
          exact kk φ H1 locs1 ls (hR.setI hk0 hn hd hP1 hD1 hS1) (hF.mem rfl hS.tl.tl.tl)
        have ht3 : ty = .char := by rcases ht2 with ⟨h, z⟩ | ⟨h, z⟩ | ⟨h, z⟩ | ⟨h, z⟩ <;> first | exact h | (rcases z with z | z <;> cases z)
        subst ht3
        exact va_cast hx hb hK hP hD hSS q0 3 hat rfl hin hdg hgo
      · cases hst
    · cases hst
  · cases hst
theorem so_laload : mSoM (.laload) := by
  intro p l e R s m args below meth c H locs Q c0 s0 D cT A g d m0 mm φ0 φ L S ls nL pc cal mi b pc' L' S' mm' len hst C hsc hdg hlen hR hF hc0 hs0 hcl hsl kk
  obtain ⟨hx, hb, hml, hr, hlk, hown, hts, hnw, hK, hA, ho, hini, hd1, hd2⟩ := C
  have hS := hF.2.2.2
  have hlen : len = 1 := hlen.resolve_right (by intro h; cases h)
  subst hlen
  unfold mStep at hst
  dsimp only at hst
  split at hst
  · rename_i j k S
    split at hst
    · rename_i n heq
      split at hst
      · rename_i hc
        simp only [Bool.and_eq_true, bne_iff_ne] at hc
        obtain ⟨hin, hk0⟩ := hc
        obtain ⟨rfl, rfl, rfl, rfl⟩ := mGo_inj hst
        have hin := mIn_in hin
        obtain ⟨dom, q0, hn, hd, hP, hD, hSS, hdq, hat⟩ := hR.cell hk0 (by rw [heq]; exact fun h => by cases h)
        rw [mEc_l heq] at hat
        exact va_lald hx hb hK hP q0 1 hat rfl hin hdg (kk φ H locs ls hR (hF.stk hS.tl.tl.long))
      · cases hst
    · cases hst
  · cases hst
theorem so_lastore : mSoM (.lastore) := by
  intro p l e R s m args below meth c H locs Q c0 s0 D cT A g d m0 mm φ0 φ L S ls nL pc cal mi b pc' L' S' mm' len hst C hsc hdg hlen hR hF hc0 hs0 hcl hsl kk
  obtain ⟨hx, hb, hml, hr, hlk, hown, hts, hnw, hK, hA, ho, hini, hd1, hd2⟩ := C
  have hS := hF.2.2.2
  have hlen : len = 1 := hlen.resolve_right (by intro h; cases h)
  subst hlen
  unfold mStep at hst
  dsimp only at hst
  split at hst
  · rename_i x j k S
    split at hst
    · rename_i n heq
      split at hst
      · rename_i hc
        simp only [Bool.and_eq_true, bne_iff_ne] at hc
        obtain ⟨hin, hk0⟩ := hc
        obtain ⟨rfl, rfl, rfl, rfl⟩ := mGo_inj hst
        have hin := mIn_in hin
        obtain ⟨dom, q0, hn, hd, hP, hD, hSS, hdq, hat⟩ := hR.cell hk0 (by rw [heq]; exact fun h => by cases h)
        rw [mEc_l heq] at hat
        have heq2 : (mSetJ mm k (vp_updL (mm.2.2.2.1 k) j.toNatClampNeg x)).1 k = some (.inl (.long, n)) := heq
        have ew : (mWs cT φ mm dom).set q0 (φ k, .inl (cT .long, n, .inr (.inl (vp_updL (mm.2.2.2.1 k) j.toNatClampNeg x)))) = mWs cT φ (mSetJ mm k (vp_updL (mm.2.2.2.1 k) j.toNatClampNeg x)) dom := by
          rw [← mWs_set hn hdq (fun j hj => mSetJ_ec hj), mEc_l heq2]
          show _ = (mWs cT φ mm dom).set q0 (φ k, .inl (cT .long, n, .inr (.inl (mRow mm.2.2.2.1 k (vp_updL (mm.2.2.2.1 k) j.toNatClampNeg x) k))))
          rw [mRow_eq]
        refine va_last hx hb hK hP hD hSS q0 1 hat rfl hin hdg (fun H1 locs1 hP1 hD1 hS1 => ?_)
        rw [ew] at hP1 hD1
        exact kk φ H1 locs1 ls (hR.setJ hn hd hP1 hD1 hS1) (hF.mem rfl hS.tl.tl.tl)
      · cases hst
    · cases hst
  · cases hst
theorem so_arraylength : mSoM (.arraylength) := by
  intro p l e R s m args below meth c H locs Q c0 s0 D cT A g d m0 mm φ0 φ L S ls nL pc cal mi b pc' L' S' mm' len hst C hsc hdg hlen hR hF hc0 hs0 hcl hsl kk
  obtain ⟨hx, hb, hml, hr, hlk, hown, hts, hnw, hK, hA, ho, hini, hd1, hd2⟩ := C
  have hS := hF.2.2.2
  have hlen : len = 1 := hlen.resolve_right (by intro h; cases h)
  subst hlen
  unfold mStep at hst
  dsimp only at hst
  split at hst
  · rename_i k S
    split at hst
    · rename_i ty n heq
      split at hst
      · rename_i hk
        obtain ⟨rfl, rfl, rfl, rfl⟩ := mGo_inj hst
        by_cases hk0 : k = 0
        · subst hk0
          simp only [bne_self_eq_false, Bool.false_or, beq_iff_eq] at hk
          obtain ⟨n', xs, hX, hbl, hbA, hm0, hxs⟩ := hsc hk
          obtain ⟨e1, e2⟩ := hR.2.1.1 0 (by rw [hm0]; exact fun h => by cases h)
          rw [heq, hm0] at e2
          cases e2
          obtain ⟨-, -, dom, hn, hd, hP, hD, hSS⟩ := id hR
          have hkk := kk φ H locs ls hR (hF.stk hS.tl.int)
          show W _ _ _ _ _ _ _ _ _ _ _ _ _ _ _ (F0 m pc ls (.ref (φ 0) :: S.map (mCv φ)))
          rw [e1]
          exact va_slen hx hb hX hbl hbA hSS hdg hkk
        · obtain ⟨dom, q0, hn, hd, hP, hD, hSS, hdq, hat⟩ := hR.cell hk0 (by rw [heq]; exact fun h => by cases h)
          have hkk := kk φ H locs ls hR (hF.stk hS.tl.int)
          rcases hR.1.2 k ty n heq with rfl | rfl | rfl | rfl | rfl
          · rw [mEc_i heq (fun h => by cases h)] at hat
            exact va_alen hx hb hK hP q0 0 hat rfl rfl hdg hkk
          · rw [mEc_l heq] at hat
            exact va_alen hx hb hK hP q0 1 hat rfl rfl hdg hkk
          · rw [mEc_i heq (fun h => by cases h)] at hat
            exact va_alen hx hb hK hP q0 2 hat rfl rfl hdg hkk
          · rw [mEc_i heq (fun h => by cases h)] at hat
            exact va_alen hx hb hK hP q0 3 hat rfl rfl hdg hkk
          · rw [mEc_i heq (fun h => by cases h)] at hat
            exact va_alen hx hb hK hP q0 4 hat rfl rfl hdg hkk
      · cases hst
    · cases hst
  · cases hst
