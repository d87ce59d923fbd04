/-! What is kept while cells come; allocation. -/
section MEX
variable {mm m1 m2 : mMem} {φ φ1 φ2 : Nat → Nat} {v : Value} {S S' : List Value} {L : mLo} {ls : Array Slot} {nL : Nat}
theorem mExt.rf : mExt mm mm φ φ := ⟨fun _ _ => ⟨rfl, rfl⟩, rfl⟩
theorem mExt.trans (h1 : mExt mm m1 φ φ1) (h2 : mExt m1 m2 φ1 φ2) : mExt mm m2 φ φ2 := by
  refine ⟨fun k hk => ?_, h2.2.trans h1.2⟩
  obtain ⟨a1, a2⟩ := h1.1 k hk
  obtain ⟨b1, b2⟩ := h2.1 k (by rw [a2]; exact hk)
  exact ⟨b1.trans a1, b2.trans a2⟩
theorem mExt.okV (h : mExt mm m1 φ φ1) (hv : mOkV mm v) : mOkV m1 v := fun k hk => by
  have h1 := hv k hk
  rw [(h.1 k h1).2]
  exact h1
theorem mExt.okS (h : mExt mm m1 φ φ1) (hS : mOkS mm S) : mOkS m1 S := fun v hv => h.okV (hS v hv)
theorem mExt.cv (h : mExt mm m1 φ φ1) (hv : mOkV mm v) : mCv φ1 v = mCv φ v := by
  cases v with
  | ref k => show Value.ref (φ1 k) = Value.ref (φ k); rw [(h.1 k (hv k rfl)).1]
  | _ => rfl
theorem mExt.map (h : mExt mm m1 φ φ1) (hS : mOkS mm S) : S.map (mCv φ1) = S.map (mCv φ) := List.map_congr_left (fun v hv => h.cv (hS v hv))
theorem mExt.fr (h : mExt mm m1 φ φ1) (hF : mFr φ mm L S ls nL) (hS : mOkS m1 S') : mFr φ1 m1 L S' ls nL := by
  refine ⟨hF.1, ⟨hF.2.1.1, hF.2.1.2.1, fun q hq => hF.2.1.2.2 q ?_⟩, fun i v hv => h.okV (hF.2.2.1 i v hv), hS⟩
  obtain ⟨v, h1, h2⟩ := mAl_mem.mp hq
  exact mAl_mem.mpr ⟨v, h1, h2.trans (h.cv (hF.2.2.1 _ _ h1))⟩
end MEX
/-- a memory with one cell more -/
def mMore (mm m2 : mMem) (k : Nat) (x : mLy) : Prop := m2.1 = mRow mm.1 k (some x) ∧ ∀ j, j ≠ k → m2.2.1 j = mm.2.1 j ∧ m2.2.2.1 j = mm.2.2.1 j ∧ m2.2.2.2.1 j = mm.2.2.2.1 j
section MPU
variable {D : va_G} {cT : FieldType → ClassId} {A : Nat → Prop} {H0 H H1 : Heap} {m0 mm m2 : mMem} {φ0 φ : Nat → Nat} {locs locs1 : List Loc} {k a : Nat} {x : mLy} {dom : List Nat}
theorem mMore.ext (h : mMore mm m2 k x) (hk : k ≠ 0) (hn : mm.1 k = none) : mExt mm m2 φ (mRow φ k a) := by
  refine ⟨fun j hj => ?_, (h.2 0 (Ne.symm hk)).2.1⟩
  have e : j ≠ k := fun e => hj (by rw [e]; exact hn)
  exact ⟨mRow_ne e, by rw [h.1, mRow_ne e]⟩
theorem mMore.ec (h : mMore mm m2 k x) (hk : k ≠ 0) (hn : mm.1 k = none) (hok : mOk mm) {j : Nat} (hj : j ≠ k) : mEc cT (mRow φ k a) m2 j = mEc cT φ mm j := by
  have e1 : m2.1 j = mm.1 j := by rw [h.1, mRow_ne hj]
  obtain ⟨h1, h2, h3⟩ := h.2 j hj
  unfold mEc
  rw [e1, h1, h2, h3]
  cases hx : mm.1 j with
  | none => rfl
  | some y =>
    cases y with
    | inl z => rfl
    | inr ci =>
      dsimp only
      congr 2
      exact List.map_congr_left (fun i _ => (h.ext (φ := φ) (a := a) hk hn).cv ((hok.1 j ci hx).2 i))
theorem mMore.ws (h : mMore mm m2 k x) (hk : k ≠ 0) (hn : mm.1 k = none) (hok : mOk mm) (hd : ∀ k, k ∈ dom ↔ k ≠ 0 ∧ mm.1 k ≠ none) : mWs cT (mRow φ k a) m2 (dom ++ [k]) = mWs cT φ mm dom ++ [(a, mEc cT (mRow φ k a) m2 k)] := by
  unfold mWs
  rw [List.map_append]
  congr 1
  · refine List.map_congr_left (fun j hj => ?_)
    have e : j ≠ k := fun e => ((hd j).mp hj).2 (by rw [e]; exact hn)
    rw [h.ec hk hn hok e, mRow_ne e]
  · show [(mRow φ k a k, _)] = _
    rw [mRow_eq]
theorem mMore.rl (h : mMore mm m2 k x) (hk : k ≠ 0) (hn : mm.1 k = none) (hR : mRl D cT A H0 m0 φ0 φ mm H locs) (hnd : dom.Nodup) (hd : ∀ k, k ∈ dom ↔ k ≠ 0 ∧ mm.1 k ≠ none) (hok : mOk m2)
    (hP : va_P D mCl (mWs cT φ mm dom ++ [(a, mEc cT (mRow φ k a) m2 k)]) H1) (hD : va_D A (mWs cT φ mm dom ++ [(a, mEc cT (mRow φ k a) m2 k)])) (hS : va_S A H0 H1 locs1) : mRl D cT A H0 m0 φ0 (mRow φ k a) m2 H1 locs1 := by
  have ew := h.ws (cT := cT) (φ := φ) (a := a) hk hn hR.1 hd
  refine ⟨hok, hR.2.1.trans (h.ext hk hn), dom ++ [k], ?_, fun j => ?_, by rw [ew]; exact hP, by rw [ew]; exact hD, hS⟩
  · refine List.nodup_append.mpr ⟨hnd, by simp, fun b hb c hc => ?_⟩
    rw [List.mem_singleton.mp hc]
    exact fun e => ((hd b).mp hb).2 (by rw [e]; exact hn)
  · rw [List.mem_append, List.mem_singleton, hd j, h.1]
    by_cases e : j = k
    · subst e
      rw [mRow_eq]
      exact ⟨fun _ => ⟨hk, fun h => by cases h⟩, fun _ => Or.inr rfl⟩
    · rw [mRow_ne e]
      exact ⟨fun q => q.elim id (fun z => absurd z e), Or.inl⟩
end MPU
theorem mDef_cv (φ : Nat → Nat) (ci i : Nat) : mCv φ (mDef ci i) = mDef ci i := by
  unfold mDef
  split
  · cases mTy ci i <;> rfl
  · rfl
theorem mDef_ok (mm : mMem) (ci i : Nat) : mOkV mm (mDef ci i) := by
  unfold mDef
  split
  · cases mTy ci i <;> exact fun _ h => by cases h
  · exact fun _ h => by cases h
theorem mNewO_more (mm : mMem) (k ci : Nat) : mMore mm (mNewO mm k ci) k (.inr ci) := ⟨rfl, fun j hj => ⟨mRow_ne hj, rfl, rfl⟩⟩
theorem mNewA_more (mm : mMem) (k n : Nat) (ty : FieldType) : mMore mm (mNewA mm k ty n) k (.inl (ty, n)) := ⟨rfl, fun j hj => ⟨rfl, mRow_ne hj, mRow_ne hj⟩⟩
theorem mNewO_ok {mm : mMem} {k ci : Nat} (hk : k ≠ 0) (hn : mm.1 k = none) (h : mOk mm) (hc : ci < 9) : mOk (mNewO mm k ci) := by
  have hx := (mNewO_more mm k ci).ext (φ := fun j => j) (a := 0) hk hn
  refine ⟨fun j cj hj => ?_, fun j ty n hj => ?_⟩
  · have hj' : mRow mm.1 k (some (.inr ci)) j = some (.inr cj) := hj
    show cj < 9 ∧ ∀ i, mOkV (mNewO mm k ci) (mRow mm.2.1 k (mDef ci) j i)
    by_cases e : j = k
    · subst e
      rw [mRow_eq] at hj' ⊢
      cases hj'
      exact ⟨hc, fun i => mDef_ok _ _ _⟩
    · rw [mRow_ne e] at hj' ⊢
      exact ⟨(h.1 j cj hj').1, fun i => hx.okV ((h.1 j cj hj').2 i)⟩
  · have hj' : mRow mm.1 k (some (.inr ci)) j = some (.inl (ty, n)) := hj
    by_cases e : j = k
    · subst e
      rw [mRow_eq] at hj'
      cases hj'
    · rw [mRow_ne e] at hj'
      exact h.2 j ty n hj'
theorem mNewA_ok {mm : mMem} {k n : Nat} {ty : FieldType} (hk : k ≠ 0) (hn : mm.1 k = none) (h : mOk mm) (hc : ty = .int ∨ ty = .long ∨ ty = .byte ∨ ty = .char ∨ ty = .boolean) : mOk (mNewA mm k ty n) := by
  have hx := (mNewA_more mm k n ty).ext (φ := fun j => j) (a := 0) hk hn
  refine ⟨fun j cj hj => ?_, fun j t2 n2 hj => ?_⟩
  · have hj' : mRow mm.1 k (some (.inl (ty, n))) j = some (.inr cj) := hj
    by_cases e : j = k
    · subst e
      rw [mRow_eq] at hj'
      cases hj'
    · rw [mRow_ne e] at hj'
      exact ⟨(h.1 j cj hj').1, fun i => hx.okV ((h.1 j cj hj').2 i)⟩
  · have hj' : mRow mm.1 k (some (.inl (ty, n))) j = some (.inl (t2, n2)) := hj
    by_cases e : j = k
    · subst e
      rw [mRow_eq] at hj'
      cases hj'
      exact hc
    · rw [mRow_ne e] at hj'
      exact h.2 j t2 n2 hj'
theorem so_new (j : Nat) : mSoM (.new j) := by
  intro p l e R s m args below meth c H locs Q c0 s0 D cT A g d m0 mm φ0 φ L S ls nL pc cal mi b pc' L' S' mm' len hst C hsc hdg hlen hR hF hc0 hs0 hcl hsl kk
  obtain ⟨hx, hb, hml, hr, hlk, hown, hts, hnw, hK, hA, ho, hini, hd1, hd2⟩ := C
  have hS := hF.2.2.2
  have hlen : len = 3 := hlen.resolve_right (by intro h; cases h)
  subst hlen
  unfold mStep at hst
  dsimp only at hst
  split at hst
  · rename_i ci q st heq1 heq2
    generalize 64 * b + st = k at hst
    split at hst
    · rename_i hk
      obtain ⟨hkn, hk0⟩ := hk
      obtain ⟨rfl, rfl, rfl, rfl⟩ := mGo_inj hst
      obtain ⟨q, hq, hw⟩ := t_L ho heq1
      obtain ⟨c1, c2, c3, c4, c5, c6, c7⟩ := t_C hq
      obtain ⟨hok, hex, dom, hn, hd, hP, hD, hSS⟩ := id hR
      have hci : ci < 9 := (List.getElem?_eq_some_iff.mp hq).1
      have e1 : (mNewO mm k ci).2.2.2.2.1 - c0 = mm.2.2.2.2.1 - c0 + 1 := by show mm.2.2.2.2.1 + 1 - c0 = _; omega
      have e2 : (mNewO mm k ci).2.2.2.2.2 - s0 = mm.2.2.2.2.2 - s0 + q.2.2 := by show mm.2.2.2.2.2 + mNf ci - s0 = _; omega
      have ec : ∀ a, mEc cT (mRow φ k a) (mNewO mm k ci) k = .inr (ci, (List.range (mNf ci)).map (mDef ci)) := by
        intro a
        rw [mEc_o (ci := ci) (show mRow mm.1 k (some (.inr ci)) k = _ by rw [mRow_eq])]
        congr 2
        refine List.map_congr_left (fun i _ => ?_)
        show mCv _ (mRow mm.2.1 k (mDef ci) k i) = _
        rw [mRow_eq, mDef_cv]
      refine va_new (D := D) (ci := ci) (C := q.1) (T := q.2.1) (N := q.2.2) (fs := (List.range (mNf ci)).map (mDef ci)) hx hb hts (fun w hw => mTb_in (c1 w hw) (mLays_good w hw)) (mTy ci) c2 hown (hts _ (mTb_in hw rfl)) (hts _ (mTb_in c5 rfl)) (hts _ (mTb_in c6 rfl)) hK hP hD hSS hA hq (fun i hi => ?_) (by rw [← e1]; exact hcl) (by rw [← e2]; exact hsl) hdg (fun a H1 hP1 hD1 hS1 => ?_)
      · rw [c7] at hi
        unfold vp_V
        rw [List.getD_eq_getElem?_getD, List.getElem?_map, List.getElem?_range hi]
        show _ = mDef ci i
        unfold mDef
        rw [if_pos hi]
      · rw [← ec a] at hP1 hD1
        have hext := (mNewO_more mm k ci).ext (φ := φ) (a := a) hk0 hkn
        have hR1 := (mNewO_more mm k ci).rl (a := a) hk0 hkn hR hn hd (mNewO_ok hk0 hkn hok hci) hP1 hD1 hS1
        have hk1 := kk (mRow φ k a) H1 locs ls hR1 (hext.fr hF ((hext.okS hS).cons (fun j hj => by cases hj; show mRow mm.1 k _ k ≠ none; rw [mRow_eq]; exact fun h => by cases h)))
        rw [e1, e2] at hk1
        have e3 : (Value.ref k :: S).map (mCv (mRow φ k a)) = .ref a :: S.map (mCv φ) := by
          show Value.ref (mRow φ k a k) :: S.map (mCv (mRow φ k a)) = _
          rw [mRow_eq, hext.map hS]
        rw [e3] at hk1
        exact hk1
    · cases hst
  · cases hst
theorem so_newarray (t : ArrayType) : mSoM (.newarray t) := by
  intro p l e R s m args below meth c H locs Q c0 s0 D cT A g d m0 mm φ0 φ L S ls nL pc cal mi b pc' L' S' mm' len hst C hsc hdg hlen hR hF hc0 hs0 hcl hsl kk
  obtain ⟨hx, hb, hml, hr, hlk, hown, hts, hnw, hK, hA, ho, hini, hd1, hd2⟩ := C
  have hS := hF.2.2.2
  have hlen : len = 2 := hlen.resolve_right (by intro h; cases h)
  subst hlen
  unfold mStep at hst
  dsimp only at hst
  split at hst
  · rename_i n S st heq2
    generalize 64 * b + st = k at hst
    split at hst
    · rename_i hk
      obtain ⟨hkn, hk0, hn0, hns, hty⟩ := hk
      obtain ⟨rfl, rfl, rfl, rfl⟩ := mGo_inj hst
      obtain ⟨hw, hty⟩ := t_A hty
      obtain ⟨hok, hex, dom, hn, hd, hP, hD, hSS⟩ := id hR
      generalize hN : n.toNatClampNeg = N at *
      have e1 : (mNewA mm k (newarray.typeOf t) N).2.2.2.2.1 - c0 = mm.2.2.2.2.1 - c0 + 1 := by show mm.2.2.2.2.1 + 1 - c0 = _; omega
      have e2 : (mNewA mm k (newarray.typeOf t) N).2.2.2.2.2 - s0 = mm.2.2.2.2.2 - s0 + N := by show mm.2.2.2.2.2 + N - s0 = _; omega
      have hmk : (mNewA mm k (newarray.typeOf t) N).1 k = some (.inl (newarray.typeOf t, N)) := by show mRow mm.1 k _ k = _; rw [mRow_eq]
      have main : ∀ (a0 : vp_A), (∀ cA : ClassId, vp_cell cA a0 = arrV cA N (fun _ => defaultValue (newarray.typeOf t))) → (∀ a, mEc cT (mRow φ k a) (mNewA mm k (newarray.typeOf t) N) k = .inl (cT (newarray.typeOf t), a0)) → (∀ cA, va_RA s cA (newarray.typeOf t) → cA = cT (newarray.typeOf t)) → N * componentBytes (newarray.typeOf t) ≤ 536870912 → (newarray.typeOf t = .int ∨ newarray.typeOf t = .long ∨ newarray.typeOf t = .byte ∨ newarray.typeOf t = .char ∨ newarray.typeOf t = .boolean) → W p l e R s m args below meth c H locs (mm.2.2.2.2.1 - c0) (mm.2.2.2.2.2 - s0) Q (F0 m pc ls ((Value.int n :: S).map (mCv φ))) := by
        intro a0 ha0 hec hcA hby hty2
        refine va_newa (atype := t) (ty := newarray.typeOf t) hx hb (hts _ (mTb_in hw rfl)) rfl hK hP hD hSS hA ha0 hn0 hN hby (by rw [← e1]; exact hcl) (by rw [← e2]; exact hsl) hdg (fun a cA H1 hK1 hP1 hD1 hS1 => ?_)
        have hcc : cA = cT (newarray.typeOf t) := hcA cA (hK1.2 5 (cA, newarray.typeOf t) rfl).2
        subst hcc
        rw [← hec a] at hP1 hD1
        have hext := (mNewA_more mm k N (newarray.typeOf t)).ext (φ := φ) (a := a) hk0 hkn
        have hR1 := (mNewA_more mm k N (newarray.typeOf t)).rl (a := a) hk0 hkn hR hn hd (mNewA_ok hk0 hkn hok hty2) hP1 hD1 hS1
        have hk1 := kk (mRow φ k a) H1 locs ls hR1 (hext.fr hF ((hext.okS hS.tl).cons (fun j hj => by cases hj; rw [hmk]; exact fun h => by cases h)))
        rw [e1, e2] at hk1
        have e3 : (Value.ref k :: S).map (mCv (mRow φ k a)) = .ref a :: S.map (mCv φ) := by
          show Value.ref (mRow φ k a k) :: S.map (mCv (mRow φ k a)) = _
          rw [mRow_eq, hext.map hS.tl]
        rw [e3] at hk1
        exact hk1
      have hI : (mNewA mm k (newarray.typeOf t) N).2.2.1 k = fun _ => 0 := by show mRow mm.2.2.1 k _ k = _; rw [mRow_eq]
      have hJ : (mNewA mm k (newarray.typeOf t) N).2.2.2.1 k = fun _ => 0 := by show mRow mm.2.2.2.1 k _ k = _; rw [mRow_eq]
      have uq : ∀ (i : Nat) (ty : FieldType) (cA : ClassId), (mTys cT)[i]? = some (cT ty, ty) → (∀ c, va_RA s c ty = (s.vm.findClass ("[" ++ ty.toString) = some c)) → va_RA s cA ty → cA = cT ty := by
        intro i ty cA hi hra h
        have h2 := (hK.2 i _ hi).2
        rw [hra] at h h2
        exact Option.some.inj (h.symm.trans h2)
      rcases hty with rfl | rfl | rfl | rfl | rfl
      · exact main (N, .inl (fun _ => 0)) (fun _ => rfl) (fun a => by rw [mEc_i hmk (fun h => by cases h), hI]) (fun cA => uq 0 .int cA rfl (fun _ => rfl)) (by show N * 4 ≤ _; omega) (Or.inl rfl)
      · exact main (N, .inr (.inl (fun _ => 0))) (fun _ => rfl) (fun a => by rw [mEc_l hmk, hJ]; rfl) (fun cA => uq 1 .long cA rfl (fun _ => rfl)) (by show N * 8 ≤ _; omega) (Or.inr (Or.inl rfl))
      · exact main (N, .inl (fun _ => 0)) (fun _ => rfl) (fun a => by rw [mEc_i hmk (fun h => by cases h), hI]) (fun cA => uq 2 .byte cA rfl (fun _ => rfl)) (by show N * 1 ≤ _; omega) (Or.inr (Or.inr (Or.inl rfl)))
      · exact main (N, .inl (fun _ => 0)) (fun _ => rfl) (fun a => by rw [mEc_i hmk (fun h => by cases h), hI]) (fun cA => uq 3 .char cA rfl (fun _ => rfl)) (by show N * 2 ≤ _; omega) (Or.inr (Or.inr (Or.inr (Or.inl rfl))))
      · exact main (N, .inl (fun _ => 0)) (fun _ => rfl) (fun a => by rw [mEc_i hmk (fun h => by cases h), hI]) (fun cA => uq 4 .boolean cA rfl (fun _ => rfl)) (by show N * 1 ≤ _; omega) (Or.inr (Or.inr (Or.inr (Or.inr rfl))))
    · cases hst
  · cases hst
